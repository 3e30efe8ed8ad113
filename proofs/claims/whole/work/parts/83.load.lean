/-! PURE: a whole text, and load -/
/-- the reference behind the begun row -/
def fReadM (g : Nat → Nat) (a0 : Nat) (M : gMem) : Option (Int × gMem) :=
  (fX9_next g a0 M).bind fun M_9 => (fX9_isWord g a0 40 M_9).bind fun x_11 => (fX9_must g a0 x_11 M_9).bind fun M_13 => (fX9_takes g a0 1 4 M_13).bind fun q_15 => if (0 : Int) ≤ 0 ∧ (0 : Int) < 1190 then gst (gup q_15.2 (a0 + 1) (0 : Int).toNat q_15.1) fun M_17 => (fX9_isSign g a0 59 M_17).bind fun x_19 => (fX9_must g a0 x_19 M_17).bind fun M_21 => (fX9_readsProcess g a0 M_21).bind fun M_23 => fX9_load_72 g gF a0 M_23 else none
section Load
variable {M M' Mc Mm Mc' Mm' : gMem} {b a c d : Nat} {x : gRow} {n n' ps pb kd dg K : Int} {g : Nat → Nat} {r R r0 : gRow} {kept : Nat → gRow}
theorem w_proc (h : ¬ Mm a 14 = 0) : fX9_readsProcess g a Mm = some Mm := by
  have eM : ∀ p : Int, fX9_readsProcess_19 g a p Mm = some Mm := fun p => by
    show ((fX9_isWord g a 41 Mm).bind fun x_2 => (fX9_must g a x_2 Mm).bind fun M_4 => fName g a p M_4) = some Mm
    rw [m_isWx h, Option.bind_some, m_mustx h, Option.bind_some, w_name h]
  unfold fX9_readsProcess
  rw [if_pos (by omega), gst_eq, m_failsx h, Option.bind_some, eM, ite_self]
theorem w_72 {fu : Nat} (h : ¬ Mm a 14 = 0) : fX9_load_72 g (fu + 1) a Mm = fX9_load_125 g a Mm := by
  have e88 : ∀ f : Nat, fX9_load_88 g (f + 1) a Mm = fX9_load_125 g a Mm := fun f => by
    unfold fX9_load_88
    rw [m_isWx h, Option.bind_some, if_pos rfl, if_neg h]
  unfold fX9_load_72
  rw [m_isWx h, Option.bind_some, if_pos rfl]
  exact e88 19999
theorem w_88 (h : ¬ Mm a 14 = 0) : fX9_load_88 g 1 a Mm = fX9_load_125 g a Mm := by
  show fX9_load_88 g (0 + 1) a Mm = _
  unfold fX9_load_88
  rw [m_isWx h, Option.bind_some, if_pos rfl, if_neg h]
theorem w_readP (h : ¬ Mm a 14 = 0) : (fX9_readsProcess g a Mm).bind (fun M_23 => fX9_load_72 g gF a M_23) = fX9_load_125 g a Mm := by
  rw [w_proc h, Option.bind_some]
  exact w_72 (fu := 19999) h
/-- what a text is read to, on both sides -/
def gRead (Mc : gMem) (b : Nat) (Mm : gMem) (a : Nat) (g : Nat → Nat) (F G : Option (Int × gMem)) : Prop :=
  (∃ Mc' Mm' r', F = some (1, Mc') ∧ G = fX9_load_125 g a Mm' ∧ Mm' a 14 = 0 ∧ Mm' (a + 1) = r' ∧ qOK r' 0 ∧ DR Mc' (b + 2) r' 0 ∧ Mc' b 3 = Mc b 3 ∧ Mc' b 4 = Mc b 4 ∧ gCE b Mc Mc' ∧ gMR a Mm Mm') ∨
  (∃ Mc' Mm', F = some (0, Mc') ∧ G = fX9_load_125 g a Mm' ∧ gER Mc' b Mm' a ∧ gCE b Mc Mc' ∧ gMR a Mm Mm')
theorem gRead.weak {Mc0 Mm0 : gMem} {F G : Option (Int × gMem)} (h : gRead Mc b Mm a g F G) (hc : gCs b Mc0 Mc) (hm : gMR a Mm0 Mm) : gRead Mc0 b Mm0 a g F G := by
  rcases h with ⟨Mc', Mm', r', e1, e2, q1, q2, q3, q4, q5, q6, F1, F2⟩ | ⟨Mc', Mm', e1, e2, E, F1, F2⟩
  · exact Or.inl ⟨Mc', Mm', r', e1, e2, q1, q2, q3, q4, q5.trans (hc.2 3 (by omega)), q6.trans (hc.2 4 (by omega)), hc.e.trans F1, hm.trans F2⟩
  · exact Or.inr ⟨Mc', Mm', e1, e2, E, hc.e.trans F1, hm.trans F2⟩
/-- the end of the text -/
theorem t_finish (hX : BX x n) (h : PS Mc b Mm a x n ps pb kd dg r) (hw : ¬ qIsW x ps pb kd (gtx 18)) : gRead Mc b Mm a g (if Mc b 7 = (-1) then (some (1, Mc)) else ((fX5_fails g b ((-2)) (Mc b 6) Mc).bind fun q_28 => if q_28.1 = 0 then (some (0, q_28.2)) else (some (1, q_28.2)))) (fX9_load_88 g 1 a Mm) := by
  obtain ⟨T, hr, hO, hfs, hD⟩ := h
  show gRead Mc b Mm a g _ (fX9_load_88 g (0 + 1) a Mm)
  unfold fX9_load_88
  rw [m_isW0 (t := 18) (by omega) hX T hw, Option.bind_some, if_pos rfl, if_pos T.m14, T.m12]
  by_cases k3 : kd = 3
  · rw [if_pos ((t7 T).2.2.1.mpr k3), if_pos k3]
    exact Or.inl ⟨Mc, Mm, r, rfl, rfl, T.m14, hr, hO, hD, rfl, rfl, fun _ _ => rfl, gMR.rfl'⟩
  · rw [if_neg (fun z => k3 ((t7 T).2.2.1.mp z)), if_neg k3, c_fails, T.c6, m_fails T.m14, T.m10]
    simp only [Option.bind_some]
    exact Or.inr ⟨_, _, if_pos trivial, rfl, gER.of (by omega), gCE.err, gMR.err⟩
/-- processes and stacks -/
theorem t_body (hX : BX x n) (h : PA Mc b Mm a x n ps pb kd dg r) (h1 : r 1 = 0) : gRead Mc b Mm a g (gth (fX5_readProcesses g b Mc) fun M => gth (fX5_readStacks g b M) fun M => if M b 7 = (-1) then (some (1, M)) else ((fX5_fails g b ((-2)) (M b 6) M).bind fun q_28 => if q_28.1 = 0 then (some (0, q_28.2)) else (some (1, q_28.2)))) ((fX9_readsProcess g a Mm).bind fun M_23 => fX9_load_72 g gF a M_23) := by
  have e0 : fX5_readProcesses g b Mc = fX5_readProcesses_22 g (fX5_readProcesses_2 g 19999) b 0 Mc := by
    unfold fX5_readProcesses
    show fX5_readProcesses_2 g (19999 + 1) b 0 Mc = _
    conv => lhs; unfold fX5_readProcesses_2
    rw [if_neg (by omega), if_pos rfl]
  rw [e0]
  rcases t_process (g := g) (k2 := fX5_readProcesses_2 g 19999) (i := 0) hX h h1 with ⟨M1, N1, ps1, pb1, kd1, dg1, r1, e1, e2, A1, q1, q2, F1, F2⟩ | ⟨M1, N1, e1, e2, E, F1, F2⟩
  · rw [e1, e2, Option.bind_some]
    dsimp only
    rw [gwi_eq (by omega) (by omega), show (0 : Int) + 1 = r1 1 by omega]
    rcases t_procs (g := g) hX 8 M1 N1 ps1 pb1 kd1 dg1 r1 19999 gF A1 (by omega) (by omega) (by omega) (by unfold gF; omega) with ⟨M2, N2, ps2, pb2, kd2, dg2, r2, a1, a2, A2, b1, b2, G1, G2⟩ | ⟨M2, N2, a1, a2, E, G1, G2⟩
    · obtain ⟨T2, hr2, hlo2, h22, hfp2, hfs2, hok2, hD2⟩ := A2
      have PS2 : PS M2 b N2 a x n ps2 pb2 kd2 dg2 r2 := ⟨T2, hr2, hok2.resolve_left (by omega), by rw [h22]; exact hfs2, hD2⟩
      rw [a1, a2, gth_1]
      have e3 : fX5_readStacks g b M2 = fX5_readStacks_2 g gF b (r2 2) M2 := by rw [h22]; rfl
      rw [e3]
      rcases t_stacks (g := g) hX 13 M2 N2 ps2 pb2 kd2 dg2 r2 gF gF PS2 (by omega) (by unfold gF; omega) (by unfold gF; omega) with ⟨M3, N3, ps3, pb3, kd3, dg3, r3, c1, c2, A3, c3, H1, H2⟩ | ⟨M3, N3, c1, c2, E, H1, H2⟩
      · rw [c1, c2, gth_1]
        exact (t_finish (g := g) hX A3 c3).weak ((F1.trans G1).trans H1) ((F2.trans G2).trans H2)
      · rw [c1, c2, gth_0, w_88 E.ne]
        exact Or.inr ⟨M3, N3, rfl, rfl, E, ((F1.trans G1).e).trans H1, (F2.trans G2).trans H2⟩
    · rw [a1, a2, gth_0]
      have e4 : fX9_load_88 g gF a N2 = fX9_load_125 g a N2 := by
        show fX9_load_88 g (19999 + 1) a N2 = _
        unfold fX9_load_88
        rw [m_isWx E.ne, Option.bind_some, if_pos rfl, if_neg E.ne]
      rw [e4]
      exact Or.inr ⟨M2, N2, rfl, rfl, E, F1.e.trans G1, F2.trans G2⟩
  · rw [e1, e2, gth_0, Option.bind_some]
    have e4 : fX9_load_72 g gF a N1 = fX9_load_125 g a N1 := w_72 (fu := 19999) E.ne
    rw [e4]
    exact Or.inr ⟨M1, N1, rfl, rfl, E, F1, F2⟩
theorem t_read (hX : BX x n) (hBc : BC Mc b x n) (hBm : BM Mm a x n) (h11 : Mm a 11 = 0) (h14 : Mm a 14 = 0) (hrow : ∀ v : Int, rup (Mm (a + 1)) 0 v = qInit r0 v) : gRead (gup (gup (gup Mc b 3 0) b 4 (-1)) b 5 0) b Mm a g (fX5_readText g b Mc) (fReadM g a Mm) := by
  have hn := hX.1
  generalize hM0 : gup (gup (gup Mc b 3 0) b 4 (-1)) b 5 0 = M0
  have B0 : BC M0 b x n := ⟨by rw [← hM0, gup_miss (by omega), gup_miss (by omega), gup_miss (by omega)]; exact hBc.1, fun k q1 q2 => by rw [← hM0, gup_row (by omega), gup_row (by omega), gup_row (by omega)]; exact hBc.2 k q1 q2⟩
  have v5 : M0 b 5 = 0 := by rw [← hM0]; exact gup_hit rfl rfl
  obtain ⟨M1, e1, C1, F1⟩ := c_tok (g := g) hX B0 v5 (by omega)
  obtain ⟨N1, e2, D1, F2⟩ := m_tok (g := g) (p := 0) hX hBm h11 h14 (by omega)
  obtain ⟨O1, q1⟩ := qTO_of hX (p := 0) (by omega)
  have T1 : TK M1 b N1 a x n _ _ _ _ := ⟨B0.f5 F1, hBm.f9 F2, C1, D1, O1⟩
  have er : ∀ v : Int, rup (N1 (a + 1)) 0 v = qInit r0 v := fun v => by rw [F2.1 (a + 1) (by omega)]; exact hrow v
  have eC : fX5_readText g b Mc = gth (fX5_takeWord g b 0 M1) fun M => gth (fX5_takeNumber g b 1 4 M) fun M => (fX0_begin g (b + 2) (M b 10) M).bind fun M_14 => gth (fX5_takeSign g b 59 M_14) fun M => gth (fX5_readProcesses g b M) fun M => gth (fX5_readStacks g b M) fun M => if M b 7 = (-1) then (some (1, M)) else ((fX5_fails g b ((-2)) (M b 6) M).bind fun q_28 => if q_28.1 = 0 then (some (0, q_28.2)) else (some (1, q_28.2))) := by
    unfold fX5_readText
    simp only [gst_eq]
    rw [hM0, e1]
    rfl
  unfold fReadM
  rw [eC, e2, Option.bind_some]
  generalize qNs x n 0 = ps1 at T1 q1
  generalize qNe x n 0 = pb1 at T1
  generalize qNk x n 0 = kd1 at T1
  generalize qNd x n 0 = dg1 at T1
  by_cases hw : qIsW x ps1 pb1 kd1 (gtx 0)
  · obtain ⟨M2, N2, ps2, pb2, kd2, dg2, e3, e4, T2, q2, F3, F4⟩ := t_next (g := g) hX T1
    rw [c_word1 (by omega) T1 hw, e3, m_isW (t := 0) (by omega) hX T1 hw, Option.bind_some, Option.bind_some, gth_1, m_must1 T1.m14, e4, Option.bind_some]
    rcases t_num (g := g) (lo := 1) (hi := 4) hX (by omega) T2 with ⟨hq, hrg, M3, N3, ps3, pb3, kd3, dg3, a1, a2, -, T3, a3, a4, G1, G2⟩ | ⟨hq, M3, N3, a1, a2, -, E, G1, G2⟩
    · rw [a1, gth_1, a2, Option.bind_some, if_pos (show (0 : Int) ≤ 0 ∧ (0 : Int) < 1190 by omega), a3]
      dsimp only
      have hN3 : N3 (a + 1) = N1 (a + 1) := by rw [G2.1 (a + 1) (by omega), F4.1 (a + 1) (by omega)]
      have e5 : gup N3 (a + 1) (0 : Int).toNat dg2 = mrow N3 (a + 1) (qInit r0 dg2) := by
        have := mrow_up N3 (a + 1) (N3 (a + 1)) 0 dg2
        rw [mrow_self, hN3, er] at this
        exact this
      obtain ⟨M4, e6, D4, F5⟩ := c_begin (g := g) (d := b + 2) (M := M3) (r := r0) (s := dg2) hrg
      rw [gst_eq, e5, e6, Option.bind_some]
      have T4 : TK M4 b (mrow N3 (a + 1) (qInit r0 dg2)) a x n ps3 pb3 kd3 dg3 := (T3.desk F5).row
      have Fc : gCs b M0 M4 := ((F1.cs.trans F3.cs).trans G1.cs).trans F5.cs
      have Fm : gMR a Mm (mrow N3 (a + 1) (qInit r0 dg2)) := ((F2.mr.trans F4.mr).trans G2.mr).trans gMR.row
      rw [m_isS1 hX (by omega) T4, Option.bind_some]
      by_cases hs : kd3 = 2 ∧ x ps3.toNat = 59
      · obtain ⟨M5, N5, ps5, pb5, kd5, dg5, e7, e8, T5, q5, H1, H2⟩ := t_next (g := g) hX T4
        rw [if_pos hs, m_must1 T4.m14, e8, Option.bind_some, c_sign1 (by omega) T4 hs, e7, Option.bind_some, gth_1]
        have hN5 : N5 (a + 1) = qInit r0 dg2 := by rw [H2.1 (a + 1) (by omega)]; exact mrow_at _ _ _
        have hlo := qInit_lo (r := r0) hrg
        have z1 : qInit r0 dg2 1 = 0 := rfl
        have D5 : DR M5 (b + 2) (qInit r0 dg2) 0 := by
          obtain ⟨⟨d4, d5, d6, d7, d8⟩, dP, dS, dL, dT⟩ := D4
          have hf : ∀ y : Nat, b + 2 ≤ y → M5 y = M4 y := fun y q => H1.1 y (by omega)
          exact ⟨⟨by rw [hf _ (by omega)]; exact d4, by rw [hf _ (by omega)]; exact d5, by rw [hf _ (by omega)]; exact d6, by rw [hf _ (by omega)]; exact d7, by rw [hf _ (by omega)]; exact d8⟩, fun q q1 q2 => by omega, fun s q1 q2 => by have : qInit r0 dg2 2 = 0 := rfl; omega, fun j q1 q2 => by rw [hf _ (by omega)]; exact dL j q1 q2, dT.congr rfl (by have : qInit r0 dg2 5 = 0 := rfl; omega) (fun _ _ => rfl) (Int.le_refl 0) (fun y q1 q2 => hf y (by omega))⟩
        have PA5 : PA M5 b N5 a x n ps5 pb5 kd5 dg5 (qInit r0 dg2) := ⟨T5, hN5, hlo, rfl, by rw [z1]; exact qInit_p, qInit_s, Or.inl rfl, D5⟩
        exact (t_body (g := g) hX PA5 z1).weak (Fc.trans H1.cs) (Fm.trans H2.mr)
      · have hw2 : ¬ gEm (mrow N3 (a + 1) (qInit r0 dg2)) a (-2) ps3 a 14 = 0 := by rw [gEm_14]; omega
        rw [if_neg hs, m_must0 T4.m14, Option.bind_some, T4.m10, w_readP hw2, c_sign0 (by omega) T4 hs, gth_0]
        exact Or.inr ⟨_, _, rfl, rfl, gER.of (by omega), Fc.e.trans gCE.err, Fm.trans gMR.err⟩
    · have hw2 : ¬ gup N3 (a + 1) (0 : Int).toNat 0 a 14 = 0 := by rw [gup_row (by omega)]; exact E.ne
      rw [a1, gth_0, a2, Option.bind_some, if_pos (show (0 : Int) ≤ 0 ∧ (0 : Int) < 1190 by omega)]
      dsimp only
      rw [gst_eq, m_isSx hw2, Option.bind_some, m_mustx hw2, Option.bind_some, w_readP hw2]
      exact Or.inr ⟨_, _, rfl, rfl, E.up, (F1.cs.trans F3.cs).e.trans G1.ce, ((F2.mr.trans F4.mr).trans G2.mr).trans gMR.up⟩
  · have hw1 : ¬ gEm N1 a (-2) ps1 a 14 = 0 := by rw [gEm_14]; omega
    have hw2 : ¬ gup (gEm N1 a (-2) ps1) (a + 1) (0 : Int).toNat 0 a 14 = 0 := by rw [gup_row (by omega)]; exact hw1
    rw [c_word0 (by omega) T1 hw, gth_0, m_isW0 (t := 0) (by omega) hX T1 hw, Option.bind_some, m_must0 T1.m14, Option.bind_some, T1.m10, m_takesx hw1, Option.bind_some, if_pos (show (0 : Int) ≤ 0 ∧ (0 : Int) < 1190 by omega)]
    dsimp only
    rw [gst_eq, m_isSx hw2, Option.bind_some, m_mustx hw2, Option.bind_some, w_readP hw2]
    exact Or.inr ⟨_, _, rfl, rfl, (gER.of (by omega)).up, F1.cs.e.trans gCE.err, (F2.mr.trans gMR.err).trans gMR.up⟩
end Load
