/-! PURE: a whole process, and all of them -/
section Proc3
variable {M M' Mc Mm Mc' Mm' : gMem} {b a d : Nat} {x : gRow} {n ps pb kd dg K p : Int} {g : Nat → Nat} {r R : gRow}
theorem t_143 {k : gMem → Option (Int × gMem)} (hX : BX x n) (h : PI Mc b Mm a x n ps pb kd dg p R) (h3 : rp R p 3 = 0) : gEnd Mc b Mm a x n ps (gth (fX5_readMay g b (b + 2 + 1 + (8 + 4 * p.toNat)) Mc) fun M => gth (fX5_takeSign g b 58 M) fun M => gth (fX5_readProgram g b (b + 2 + 1 + (8 + 4 * p.toNat)) M) (fun M => gth (fX5_takeSign g b 59 M) k)) k (fX9_readsProcess_143 g a p Mm) p := by
  have h0 := h
  obtain ⟨T, hr, h1, hp, hlo, h2, hfp, hfs, hO, hD⟩ := h
  have hto := T.to.1
  have hn := hX.1
  unfold fX9_readsProcess_143 fX5_readMay
  by_cases hw : qIsW x ps pb kd (gtx 3)
  · obtain ⟨M1, N1, ps1, pb1, kd1, dg1, e1, e2, T1, q1, F1, F2⟩ := t_next (g := g) hX T
    have hN : N1 (a + 1) = rup R 1 p := by rw [F2.1 (a + 1) (by omega)]; exact hr
    have hto1 := T1.to.1
    have I := t_slots (g := g) (k := k) hX (n - ps1 + 1).toNat M1 N1 ps1 pb1 kd1 dg1 R 0 gF gF ⟨T1, hN, h1, hp, hlo, h2, hfp, hfs, hO, hD.tok hO F1.1⟩ h3 (Int.le_refl 0) (by omega) (Or.inl rfl) (by omega) (by unfold gF; omega) (by unfold gF; omega)
    rw [c_isW (by omega) T hw, m_isW (t := 3) (by omega) hX T hw, Option.bind_some, Option.bind_some, if_neg (show ¬ (1 : Int) = 0 by omega), if_neg (show ¬ (1 : Int) = 0 by omega), e1, e2, Option.bind_some, Option.bind_some]
    exact I.weak F1.cs F2.mr (by omega)
  · rw [c_isW0 (by omega) T hw, m_isW0 (t := 3) (by omega) hX T hw, Option.bind_some, Option.bind_some, if_pos rfl, if_pos rfl, gth_1]
    exact t_161 hX h0 h3
/-- the reference behind the name -/
def fTurn (g : Nat → Nat) (a : Nat) (p : Int) (M : gMem) : Option gMem :=
  (fX9_isWord g a 42 M).bind fun x_7 => if x_7 = 0 then (fX9_readsProcess_143 g a p M) else ((fX9_next g a M).bind fun M_10 => (fX9_takes g a 1 9 M_10).bind fun q_12 => (fX9_sets g a p 4 q_12.1 q_12.2).bind fun M_14 => fX9_readsProcess_143 g a p M_14)
theorem t_turn {k : gMem → Option (Int × gMem)} (hX : BX x n) (h : PI Mc b Mm a x n ps pb kd dg p R) (h3 : rp R p 3 = 0) : gEnd Mc b Mm a x n ps (gth (fX5_readTurnLength g b (b + 2 + 1 + (8 + 4 * p.toNat)) Mc) fun M => gth (fX5_readMay g b (b + 2 + 1 + (8 + 4 * p.toNat)) M) fun M => gth (fX5_takeSign g b 58 M) fun M => gth (fX5_readProgram g b (b + 2 + 1 + (8 + 4 * p.toNat)) M) (fun M => gth (fX5_takeSign g b 59 M) k)) k (fTurn g a p Mm) p := by
  have h0 := h
  obtain ⟨T, hr, h1, hp, hlo, h2, hfp, hfs, hO, hD⟩ := h
  have hto := T.to.1
  have hpR : 0 ≤ p ∧ p < R 1 := by omega
  unfold fTurn fX5_readTurnLength
  by_cases hw : qIsW x ps pb kd (gtx 2)
  · obtain ⟨M1, N1, ps1, pb1, kd1, dg1, e1, e2, T1, q1, F1, F2⟩ := t_next (g := g) hX T
    have hN : N1 (a + 1) = rup R 1 p := by rw [F2.1 (a + 1) (by omega)]; exact hr
    have hD1 : DR M1 (b + 2) R 0 := hD.tok hO F1.1
    rw [c_isW (by omega) T hw, m_isW (t := 2) (by omega) hX T hw, Option.bind_some, Option.bind_some, if_neg (show ¬ (1 : Int) = 0 by omega), if_neg (show ¬ (1 : Int) = 0 by omega), e1, e2, Option.bind_some, Option.bind_some]
    rcases t_num (g := g) (lo := 1) (hi := 9) hX (by omega) T1 with ⟨hq, hrg, M2, N2, ps2, pb2, kd2, dg2, a1, a2, -, T2, a3, a4, G1, G2⟩ | ⟨hq, M2, N2, a1, a2, -, E, G1, G2⟩
    · have hN2 : N2 (a + 1) = rup R 1 p := by rw [G2.1 (a + 1) (by omega)]; exact hN
      have hD2 : DR M2 (b + 2) R 0 := hD1.tok hO G1.1
      have D4 := DR_p (k := 4) (v := dg1) hO hD2 hpR (by omega) (Int.le_refl 0)
      have O4 : qOK (rsp R p 4 dg1) 0 := qOK_rsp hO (Int.le_refl 0) hpR (by unfold qVal; omega)
      have F4 : gFr (b + 2) M2 (gup M2 (b + 2 + 1 + (8 + 4 * p.toNat)) 5 dg1) := gFr.up (by omega)
      have hrest := h0.o (R' := rsp R p 4 dg1) (fun j q => rsp_lo hp.1 (by omega) q) (fun j q1 q2 => rup_miss (by omega))
      have e43 : rp (rsp R p 4 dg1) p 3 = 0 := by rw [rp_rsp_ne hp.1 hp.1 (by omega) (by omega) (by omega)]; exact h3
      have PI4 : PI (gup M2 (b + 2 + 1 + (8 + 4 * p.toNat)) 5 dg1) b (mrow N2 (a + 1) (rup (rsp R p 4 dg1) 1 p)) a x n ps2 pb2 kd2 dg2 p (rsp R p 4 dg1) := ⟨(T2.desk F4).row, mrow_at _ _ _, hrest.1, hp, hrest.2.1, hrest.2.2.1, hrest.2.2.2.1, hrest.2.2.2.2, O4, D4⟩
      have I := t_143 (g := g) (k := k) hX PI4 e43
      rw [a1, a2, Option.bind_some, Option.bind_some, if_neg (show ¬ (1 : Int) = 0 by omega)]
      show gEnd Mc b Mm a x n ps (gth (gst (gup M2 (b + 2 + 1 + (8 + 4 * p.toNat)) 5 (M2 b 10)) fun M_10 => some (1, M_10)) _) _ ((fX9_sets g a p 4 dg1 N2).bind _) _
      rw [a3, gst_eq, gth_1, m_setsR hN2 (by omega) (by omega), Option.bind_some, rup_rsp_1 hp.1 (by omega)]
      have hto1 := T1.to.1
      exact I.weak ((F1.cs.trans G1.cs).trans F4.cs) ((F2.mr.trans G2.mr).trans gMR.row) (by omega)
    · have hN2 : N2 (a + 1) = rup R 1 p := by rw [G2.1 (a + 1) (by omega)]; exact hN
      have hw2 : ¬ mrow N2 (a + 1) (rsp (rup R 1 p) p 4 0) a 14 = 0 := by rw [mrow_ne (by omega)]; exact E.ne
      obtain ⟨w, ew⟩ := w_143 (g := g) (p := p) hw2
      rw [a1, a2, Option.bind_some, Option.bind_some, if_pos rfl, gth_0]
      show gEnd Mc b Mm a x n ps _ _ ((fX9_sets g a p 4 0 N2).bind _) _
      rw [m_setsR hN2 (by omega) (by omega), Option.bind_some, ew]
      exact Or.inr ⟨M2, _, rfl, rfl, E.row.up, F1.cs.e.trans G1.ce, ((F2.mr.trans G2.mr).trans gMR.row).trans gMR.up⟩
  · rw [c_isW0 (by omega) T hw, m_isW0 (t := 2) (by omega) hX T hw, Option.bind_some, Option.bind_some, if_pos rfl, if_pos rfl, gth_1]
    exact t_143 hX h0 h3
/-- the reference writes the name -/
theorem m_name_lp (hX : BX x n) : ∀ (m : Nat) (j : Int) (r : gRow) (Mm : gMem) (fu : Nat), TK Mc b Mm a x n ps pb kd dg → Mm (a + 1) = r → (0 ≤ p ∧ p < 8) → 0 ≤ j → j + m = 8 → m < fu → fX9_readsProcess_57 g fu a p j Mm = ((fX9_next g a (mrow Mm (a + 1) (qNamN (tw x ps) (pb - ps) p m j r))).bind fun M_3 => (fX9_sets g a p 4 3 M_3).bind fun M_5 => fTurn g a p M_5) := by
  intro m
  induction m with
  | zero =>
    intro j r Mm fu T hr hp h0 hs hf
    obtain ⟨fu, rfl⟩ := fuS hf
    unfold fX9_readsProcess_57 qNamN
    rw [if_pos (by omega), ← mrow_r hr]
    rfl
  | succ m ih =>
    intro j r Mm fu T hr hp h0 hs hf
    obtain ⟨fu, rfl⟩ := fuS hf
    have hn := hX.1
    have hto := T.to.1
    have step : ∀ v : Int, v = (if j < pb - ps then tw x ps j else 0) → fX9_readsProcess_97 g (fX9_readsProcess_57 g fu) a p j a p (gwi (10 + j)) v Mm = ((fX9_next g a (mrow Mm (a + 1) (qNamN (tw x ps) (pb - ps) p (m + 1) j r))).bind fun M_3 => (fX9_sets g a p 4 3 M_3).bind fun M_5 => fTurn g a p M_5) := by
      intro v hv
      unfold fX9_readsProcess_97
      rw [gwi_eq (by omega) (by omega), m_setsR hr hp (by omega), Option.bind_some, gst_eq, gwi_eq (by omega) (by omega)]
      have I := ih (j + 1) (rsp r p (10 + j) v) (mrow Mm (a + 1) (rsp r p (10 + j) v)) fu T.row (mrow_at _ _ _) hp (by omega) (by omega) (by omega)
      rw [mrow_mrow] at I
      rw [I, hv]
      rfl
    unfold fX9_readsProcess_57
    rw [if_neg (by omega), T.m11, T.m10, gwi_eq (x := ps + j) (by omega) (by omega)]
    by_cases hb : pb ≤ ps + j
    · rw [if_pos hb]
      exact step 0 (if_neg (by omega)).symm
    · rw [if_neg hb, if_pos (by omega)]
      have ev : Mm (a + 7) (ps + j).toNat = tw x ps j := T.2.1.2 (ps + j) (by omega) (by omega)
      rw [ev]
      exact step _ (if_pos (by omega)).symm
/-- the class behind the word 'process' -/
def gName (g : Nat → Nat) (b : Nat) (k : gMem → Option (Int × gMem)) (M : gMem) : Option (Int × gMem) :=
  (fX5_readName g b M).bind fun q_7 => if q_7.1 = 0 then (some (0, q_7.2)) else gth (fX5_readTurnLength g b q_7.1 q_7.2) fun M => gth (fX5_readMay g b q_7.1 M) fun M => gth (fX5_takeSign g b 58 M) fun M => gth (fX5_readProgram g b q_7.1 M) (fun M => gth (fX5_takeSign g b 59 M) k)
/-- the reference behind that word -/
def fName (g : Nat → Nat) (a : Nat) (p : Int) (M : gMem) : Option gMem :=
  (fX9_mustName g a M).bind fun M_6 => (fX9_named g a M_6).bind fun x_8 => if x_8 = (-1) then (fX9_readsProcess_47 g a p M_6) else ((fX9_fails g a ((-5)) M_6).bind fun M_11 => fX9_readsProcess_47 g a p M_11)
theorem w_47 (h : ¬ Mm a 14 = 0) : fX9_readsProcess_47 g a p Mm = some Mm := by
  unfold fX9_readsProcess_47
  rw [if_neg h]
theorem w_name (h : ¬ Mm a 14 = 0) : fName g a p Mm = some Mm := by
  unfold fName
  rw [m_mustNamex h, Option.bind_some, m_namedx h, Option.bind_some, if_pos rfl, w_47 h]
theorem t_name {k : gMem → Option (Int × gMem)} (hX : BX x n) (h : PA Mc b Mm a x n ps pb kd dg r) (h1 : r 1 = p) (hp7 : p ≤ 7) : gEnd Mc b Mm a x n ps (gName g b k Mc) k (fName g a p Mm) p := by
  obtain ⟨T, hr, hlo, h2, hfp, hfs, hok, hD⟩ := h
  have hn := hX.1
  have hto := T.to
  have hp : 0 ≤ p ∧ p ≤ 7 := by have := hlo.2.1; omega
  unfold gName fX5_readName fName
  by_cases hN : qNm ps pb kd
  · have hkd := hN.1
    have hN2 := hN.2
    have hto1 := hto.1
    have hlt := hto.2.2.2.2.1 (by omega)
    have hlet := hto.2.2.2.2.2.1 hkd
    have e8 : Mc b 8 = qPack (tw x ps) (pb - ps).toNat := by
      rw [T.2.2.1.2.2.2.1 hkd, if_pos hN.2]
    rw [(c_isName T).1 hN, Option.bind_some, if_neg (show ¬ (1 : Int) = 0 by omega), (m_mustName hn.2 T).1 hN, Option.bind_some, m_named hX T hr hlo.2.1, Option.bind_some, e8, c_named (r := r) (f := tw x ps) (len := pb - ps) (by omega) hlet hlo.2.1 hD.1.2.1 hD.2.1, Option.bind_some]
    by_cases hx : qNamed r (tw x ps) (pb - ps) = -1
    · rw [if_pos hx, if_pos hx]
      unfold fX9_readsProcess_47
      rw [if_pos T.m14, m_name_lp (g := g) hX 8 0 r Mm gF T hr (by omega) (by omega) (by omega) (by unfold gF; omega)]
      obtain ⟨M1, e1, D1, O1, F1⟩ := c_addProc (g := g) (d := b + 2) (f := tw x ps) (len := pb - ps) hlo h1 hp7 h2 (by rw [← h1]; exact hfp) hok (by omega) hlet hD
      have T1 : TK M1 b (mrow Mm (a + 1) (qNamN (tw x ps) (pb - ps) p 8 0 r)) a x n ps pb kd dg := (T.desk F1).row
      obtain ⟨M2, N2, ps2, pb2, kd2, dg2, e3, e4, T2, q2, G1, G2⟩ := t_next (g := g) hX T1
      have hN2 : N2 (a + 1) = qNamN (tw x ps) (pb - ps) p 8 0 r := by rw [G2.1 (a + 1) (by omega)]; exact mrow_at _ _ _
      have hX1 : rsp (qNamN (tw x ps) (pb - ps) p 8 0 r) p 4 3 = rup (qAddP r p (tw x ps) (pb - ps)) 1 p := by
        unfold qAddP
        rw [rup_over]
        have e : (rsp (qNamN (tw x ps) (pb - ps) p 8 0 r) p 4 3) (1 : Int).toNat = p := by
          rw [tn1, rsp_lo hp.1 (by omega) (by omega), qNamN_at hp.1 8 0 r 1 (by omega), if_neg (by omega)]
          exact h1
        have := rup_same (r := rsp (qNamN (tw x ps) (pb - ps) p 8 0 r) p 4 3) (i := 1)
        rw [e] at this
        exact this.symm
      rw [e1, e4]
      show gEnd Mc b Mm a x n ps (((fX5_next g b M1).bind fun M_12 => some (b + 2 + 1 + (8 + 4 * p.toNat), M_12)).bind _) k _ p
      rw [e3, Option.bind_some, Option.bind_some, Option.bind_some, if_neg (show ¬ b + 2 + 1 + (8 + 4 * p.toNat) = 0 by omega), m_setsR hN2 (by omega) (by omega), Option.bind_some, hX1]
      have Q := fun j => qAddP_at (r := r) (f := tw x ps) (len := pb - ps) hp.1 j
      have L1 : qAddP r p (tw x ps) (pb - ps) 1 = p + 1 := by rw [Q, if_pos rfl]
      have Lo : ∀ j : Nat, j < 6 → ¬ j = 1 → qAddP r p (tw x ps) (pb - ps) j = r j := fun j q1 q2 => by rw [Q, if_neg q2, if_neg (by omega), if_neg (by omega)]
      have Hi : ∀ j : Nat, 6 + 86 * (p + 1) ≤ (j : Int) → qAddP r p (tw x ps) (pb - ps) j = r j := fun j q1 => by rw [Q, if_neg (by omega), if_neg (by omega), if_neg (by omega)]
      have h33 : rp (qAddP r p (tw x ps) (pb - ps)) p 3 = 0 := by
        rw [qAddP_rp hp.1 hp.1 (by omega), if_neg (by omega), if_neg (by omega)]
        exact hfp _ (by omega) (by omega)
      have hlo' : qLo (qAddP r p (tw x ps) (pb - ps)) := by
        obtain ⟨l0, l1, l2, l3, l4, l5⟩ := hlo
        unfold qLo
        rw [Lo 0 (by omega) (by omega), L1, Lo 2 (by omega) (by omega), Lo 3 (by omega) (by omega), Lo 4 (by omega) (by omega), Lo 5 (by omega) (by omega)]
        exact ⟨l0, by omega, l2, l3, l4, l5⟩
      have PI2 : PI M2 b (mrow N2 (a + 1) (rup (qAddP r p (tw x ps) (pb - ps)) 1 p)) a x n ps2 pb2 kd2 dg2 p (qAddP r p (tw x ps) (pb - ps)) :=
        ⟨T2.row, mrow_at _ _ _, L1, hp, hlo', by rw [Lo 2 (by omega) (by omega)]; exact h2, fun j q1 q2 => by rw [Hi j q1]; exact hfp j (by omega) q2, fun j q1 q2 => by rw [Hi j (by omega)]; exact hfs j q1 q2, O1, D1.tok O1 G1.1⟩
      exact (t_turn (g := g) (k := k) hX PI2 h33).weak (F1.cs.trans G1.cs) ((gMR.row.trans G2.mr).trans gMR.row) (by omega)
    · rw [if_neg hx, if_neg hx, c_fails, T.c6, m_fails T.m14, Option.bind_some, Option.bind_some, Option.bind_some, if_pos rfl, w_47 (by rw [gEm_14]; omega), T.m10]
      exact Or.inr ⟨_, _, rfl, rfl, gER.of (by omega), gCE.err, gMR.err⟩
  · have hw : ¬ gEm Mm a (-2) ps a 14 = 0 := by rw [gEm_14]; omega
    rw [(c_isName T).2 hN, Option.bind_some, if_pos rfl, c_fails, T.c6, Option.bind_some, Option.bind_some, if_pos rfl, (m_mustName hn.2 T).2 hN, Option.bind_some, m_namedx hw, Option.bind_some, if_pos rfl, w_47 hw]
    exact Or.inr ⟨_, _, rfl, rfl, gER.of (by omega), gCE.err, gMR.err⟩
theorem t_process {k2 : Nat → Int → gMem → Option (Int × gMem)} {i : Int} (hX : BX x n) (h : PA Mc b Mm a x n ps pb kd dg r) (h1 : r 1 = p) : gEnd Mc b Mm a x n ps (fX5_readProcesses_22 g k2 b i Mc) (fun M => k2 b (gwi (i + 1)) M) (fX9_readsProcess g a Mm) p := by
  have h0 := h
  obtain ⟨T, hr, hlo, h2, hfp, hfs, hok, hD⟩ := h
  have hto := T.to
  have hp : 0 ≤ p ∧ p ≤ 8 := by have := hlo.2.1; omega
  have e1 : Mm (a + 1) (1 : Int).toNat = p := by rw [tn1, hr]; exact h1
  have e5 : Mc (b + 2) 5 = p := by rw [hD.1.2.1]; exact h1
  have eC : fX5_readProcesses_22 g k2 b i Mc = if p < 8 then gth (fX5_takeWord g b 1 Mc) (gName g b (fun M => k2 b (gwi (i + 1)) M)) else ((fX5_fails g b ((-6)) (Mc b 6) Mc).bind fun q_27 => some (q_27.1, q_27.2)) := by
    unfold fX5_readProcesses_22
    rw [e5]
    rfl
  have eM : ∀ M : gMem, fX9_readsProcess_19 g a p M = ((fX9_isWord g a 41 M).bind fun x_2 => (fX9_must g a x_2 M).bind fun M_4 => fName g a p M_4) := fun M => rfl
  unfold fX9_readsProcess
  rw [eC, e1, if_pos (show (0 : Int) ≤ 1 ∧ (1 : Int) < 1190 by omega), gst_eq]
  by_cases h8 : p = 8
  · have hw : ¬ gEm Mm a (-6) ps a 14 = 0 := by rw [gEm_14]; omega
    rw [if_neg (show ¬ p < 8 by omega), if_pos h8, m_fails T.m14, Option.bind_some, T.m10, eM, m_isWx hw, Option.bind_some, m_mustx hw, Option.bind_some, w_name hw, c_fails, T.c6]
    exact Or.inr ⟨_, _, rfl, rfl, gER.of (by omega), gCE.err, gMR.err⟩
  · rw [if_pos (show p < 8 by omega), if_neg h8, eM]
    by_cases hw : qIsW x ps pb kd (gtx 1)
    · obtain ⟨M1, N1, ps1, pb1, kd1, dg1, e1, e2, T1, q1, F1, F2⟩ := t_next (g := g) hX T
      rw [c_word1 (by omega) T hw, e1, Option.bind_some, gth_1, m_isW (t := 1) (by omega) hX T hw, Option.bind_some, m_must1 T.m14, e2, Option.bind_some]
      have hD1 : DR M1 (b + 2) r 0 := by
        rcases hok with e | hO
        · obtain ⟨⟨d4, d5, d6, d7, d8⟩, dP, dS, dL, dT⟩ := hD
          have hf : ∀ y : Nat, b + 2 ≤ y → M1 y = Mc y := fun y q => F1.1 y (by omega)
          exact ⟨⟨by rw [hf _ (by omega)]; exact d4, by rw [hf _ (by omega)]; exact d5, by rw [hf _ (by omega)]; exact d6, by rw [hf _ (by omega)]; exact d7, by rw [hf _ (by omega)]; exact d8⟩, fun q q1 q2 => by omega, fun s q1 q2 => by omega, fun j q1 q2 => by rw [hf _ (by omega)]; exact dL j q1 q2, dT.congr rfl (by rw [hlo.2.2.2.2.2]; omega) (fun _ _ => rfl) (Int.le_refl 0) (fun y q1 q2 => hf y (by omega))⟩
        · exact hD.tok hO F1.1
      have PA1 : PA M1 b N1 a x n ps1 pb1 kd1 dg1 r := ⟨T1, by rw [F2.1 (a + 1) (by omega)]; exact hr, hlo, h2, hfp, hfs, hok, hD1⟩
      exact (t_name (g := g) hX PA1 h1 (by omega)).weak F1.cs F2.mr (by have := hto.1; omega)
    · have hw2 : ¬ gEm Mm a (-2) ps a 14 = 0 := by rw [gEm_14]; omega
      rw [c_word0 (by omega) T hw, gth_0, m_isW0 (t := 1) (by omega) hX T hw, Option.bind_some, m_must0 T.m14, Option.bind_some, T.m10, w_name hw2]
      exact Or.inr ⟨_, _, rfl, rfl, gER.of (by omega), gCE.err, gMR.err⟩
/-- all processes behind the first -/
theorem t_procs (hX : BX x n) : ∀ (m : Nat) (Mc Mm : gMem) (ps pb kd dg : Int) (r : gRow) (fu fu' : Nat), PA Mc b Mm a x n ps pb kd dg r → 1 ≤ r 1 → r 1 + m = 9 → m < fu → m < fu' →
    (∃ Mc' Mm' ps' pb' kd' dg' r', fX5_readProcesses_2 g fu b (r 1) Mc = some (1, Mc') ∧ fX9_load_72 g fu' a Mm = fX9_load_88 g gF a Mm' ∧ PA Mc' b Mm' a x n ps' pb' kd' dg' r' ∧ 1 ≤ r' 1 ∧ ps ≤ ps' ∧ gCs b Mc Mc' ∧ gMR a Mm Mm') ∨
    (∃ Mc' Mm', fX5_readProcesses_2 g fu b (r 1) Mc = some (0, Mc') ∧ fX9_load_72 g fu' a Mm = fX9_load_88 g gF a Mm' ∧ gER Mc' b Mm' a ∧ gCE b Mc Mc' ∧ gMR a Mm Mm') := by
  intro m
  induction m with
  | zero =>
    intro Mc Mm ps pb kd dg r fu fu' h h1 hm hf hf'
    have := h.2.2.1.2.1
    omega
  | succ m ih =>
    intro Mc Mm ps pb kd dg r fu fu' h h1 hm hf hf'
    obtain ⟨fu, rfl⟩ := fuS hf
    obtain ⟨fu', rfl⟩ := fuS hf'
    have T := h.1
    have hr1 := h.2.2.1.2.1
    by_cases hw : qIsW x ps pb kd (gtx 1)
    · have eC : fX5_readProcesses_2 g (fu + 1) b (r 1) Mc = fX5_readProcesses_22 g (fX5_readProcesses_2 g fu) b (r 1) Mc := by
        conv => lhs; unfold fX5_readProcesses_2
        rw [if_neg (by omega), if_neg (by omega), c_isW (by omega) T hw, Option.bind_some, if_neg (by omega)]
      have eM : fX9_load_72 g (fu' + 1) a Mm = (fX9_readsProcess g a Mm).bind fun M_5 => fX9_load_72 g fu' a M_5 := by
        conv => lhs; unfold fX9_load_72
        rw [m_isW (t := 1) (by omega) hX T hw, Option.bind_some, if_neg (by omega)]
      rw [eC, eM]
      rcases t_process (g := g) (k2 := fX5_readProcesses_2 g fu) (i := r 1) hX h rfl with ⟨M1, N1, ps1, pb1, kd1, dg1, r1, e1, e2, A1, q1, q2, F1, F2⟩ | ⟨M1, N1, e1, e2, E, F1, F2⟩
      · rw [e1, e2, Option.bind_some, gwi_eq (by omega) (by omega), ← q1]
        rcases ih M1 N1 ps1 pb1 kd1 dg1 r1 fu fu' A1 (by omega) (by omega) (by omega) (by omega) with ⟨M2, N2, ps2, pb2, kd2, dg2, r2, a1, a2, A2, b1, b2, G1, G2⟩ | ⟨M2, N2, a1, a2, E, G1, G2⟩
        · exact Or.inl ⟨M2, N2, ps2, pb2, kd2, dg2, r2, a1, a2, A2, b1, by omega, F1.trans G1, F2.trans G2⟩
        · exact Or.inr ⟨M2, N2, a1, a2, E, F1.e.trans G1, F2.trans G2⟩
      · rw [e1, e2, Option.bind_some]
        refine Or.inr ⟨M1, N1, rfl, ?_, E, F1, F2⟩
        obtain ⟨fu', rfl⟩ := fuS (show 0 < fu' by omega)
        unfold fX9_load_72
        rw [m_isWx E.ne, Option.bind_some, if_pos rfl]
    · refine Or.inl ⟨Mc, Mm, ps, pb, kd, dg, r, ?_, ?_, h, h1, Int.le_refl ps, gCs.rfl', gMR.rfl'⟩
      · unfold fX5_readProcesses_2
        rw [if_neg (by omega), if_neg (by omega), c_isW0 (by omega) T hw, Option.bind_some, if_pos rfl]
      · unfold fX9_load_72
        rw [m_isW0 (t := 1) (by omega) hX T hw, Option.bind_some, if_pos rfl]
end Proc3
