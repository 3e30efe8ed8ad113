/-! PURE: the stacks are read, on both sides -/
/-- between stacks -/
def PS (Mc : gMem) (b : Nat) (Mm : gMem) (a : Nat) (x : gRow) (n ps pb kd dg : Int) (r : gRow) : Prop :=
  TK Mc b Mm a x n ps pb kd dg ∧ Mm (a + 1) = r ∧ qOK r 0 ∧ qFreS r (r 2) ∧ DR Mc (b + 2) r 0
/-- while the numbers of the stack s are read: R is the row with it and them counted -/
def PN (Mc : gMem) (b : Nat) (Mm : gMem) (a : Nat) (x : gRow) (n ps pb kd dg s : Int) (R : gRow) : Prop :=
  TK Mc b Mm a x n ps pb kd dg ∧ Mm (a + 1) = rup (rss R s 1 0) 2 s ∧ R 2 = s + 1 ∧ (0 ≤ s ∧ s < 12) ∧ qOK R 0 ∧ qFreS R (s + 1) ∧ DR Mc (b + 2) R 0
def gEndS (Mc : gMem) (b : Nat) (Mm : gMem) (a : Nat) (x : gRow) (n ps : Int) (F : Option (Int × gMem)) (k : gMem → Option (Int × gMem)) (G : Option gMem) (s : Int) : Prop :=
  (∃ Mc' Mm' ps' pb' kd' dg' R', F = k Mc' ∧ G = some Mm' ∧ PS Mc' b Mm' a x n ps' pb' kd' dg' R' ∧ R' 2 = s + 1 ∧ ps ≤ ps' ∧ gCs b Mc Mc' ∧ gMR a Mm Mm') ∨
  (∃ Mc' Mm', F = some (0, Mc') ∧ G = some Mm' ∧ gER Mc' b Mm' a ∧ gCE b Mc Mc' ∧ gMR a Mm Mm')
section Stack
variable {M M' Mc Mm Mc' Mm' : gMem} {b a d : Nat} {x : gRow} {n ps pb kd dg K s room : Int} {g : Nat → Nat} {r R : gRow}
theorem gEndS.weak {Mc0 Mm0 : gMem} {ps0 : Int} {F : Option (Int × gMem)} {k : gMem → Option (Int × gMem)} {G : Option gMem} (h : gEndS Mc b Mm a x n ps F k G s) (hc : gCs b Mc0 Mc) (hm : gMR a Mm0 Mm) (hp : ps0 ≤ ps) : gEndS Mc0 b Mm0 a x n ps0 F k G s := by
  rcases h with ⟨Mc', Mm', ps', pb', kd', dg', R', e1, e2, A, q1, q2, F1, F2⟩ | ⟨Mc', Mm', e1, e2, E, F1, F2⟩
  · exact Or.inl ⟨Mc', Mm', ps', pb', kd', dg', R', e1, e2, A, q1, by omega, hc.trans F1, hm.trans F2⟩
  · exact Or.inr ⟨Mc', Mm', e1, e2, E, hc.e.trans F1, hm.trans F2⟩
theorem t_248 {k : gMem → Option (Int × gMem)} (hX : BX x n) (h : PN Mc b Mm a x n ps pb kd dg s R) : gEndS Mc b Mm a x n ps (gth (fX5_takeSign g b 59 Mc) k) k (fX9_readsStack_248 g a s (rs R s 1) Mm) s := by
  obtain ⟨T, hr, h2, hs, hO, hfs, hD⟩ := h
  have hto := T.to
  unfold fX9_readsStack_248
  have er : rss (rup (rss R s 1 0) 2 s) s 1 (rs R s 1) = rup R 2 s := by
    unfold rss rs
    rw [rup_comm (by rw [tn2]; omega), rup_over]
    rw [rup_same]
  rw [m_putsR hr hs (by omega), Option.bind_some, er]
  have T1 : TK Mc b (mrow Mm (a + 1) (rup R 2 s)) a x n ps pb kd dg := T.row
  rw [m_isS1 hX (by omega) T1, Option.bind_some]
  by_cases hsg : kd = 2 ∧ x ps.toNat = 59
  · obtain ⟨M1, N1, ps1, pb1, kd1, dg1, e1, e2, T2, q1, F1, F2⟩ := t_next (g := g) hX T1
    rw [if_pos hsg, m_must1 T1.m14, e2, Option.bind_some, if_pos (show (0 : Int) ≤ 2 ∧ (2 : Int) < 1190 by omega), if_pos (show (0 : Int) ≤ 2 ∧ (2 : Int) < 1190 by omega), gst_eq, c_sign1 (by omega) T hsg, e1]
    have hN : N1 (a + 1) = rup R 2 s := by rw [F2.1 (a + 1) (by omega)]; exact mrow_at _ _ _
    have e3 : N1 (a + 1) (2 : Int).toNat = s := by rw [hN]; exact rup_hit rfl
    rw [e3, gwi_eq (by omega) (by omega)]
    have e4 : gup N1 (a + 1) (2 : Int).toNat (s + 1) = mrow N1 (a + 1) R := by
      have := mrow_up N1 (a + 1) (N1 (a + 1)) 2 (s + 1)
      rw [mrow_self, hN, rup_over, ← h2, show rup R 2 (R 2) = R from rup_same] at this
      rw [← h2]; exact this
    rw [e4]
    exact Or.inl ⟨M1, mrow N1 (a + 1) R, ps1, pb1, kd1, dg1, R, rfl, rfl, ⟨T2.row, mrow_at _ _ _, hO, by rw [h2]; exact hfs, hD.tok hO F1.1⟩, h2, by have := hto.1; omega, F1.cs, (gMR.row.trans F2.mr).trans gMR.row⟩
  · rw [if_neg hsg, m_must0 T1.m14, Option.bind_some, if_pos (show (0 : Int) ≤ 2 ∧ (2 : Int) < 1190 by omega), if_pos (show (0 : Int) ≤ 2 ∧ (2 : Int) < 1190 by omega), gst_eq, T1.m10, c_sign0 (by omega) T hsg]
    exact Or.inr ⟨_, _, rfl, rfl, (gER.of (by omega)).up, gCE.err, (gMR.row.trans gMR.err).trans gMR.up⟩
theorem w_217 {K : Nat → Int → Int → Int → gMem → Option gMem} {i : Int} (h : ¬ Mm a 14 = 0) : fX9_readsStack_217 g K a s room i Mm = some Mm := by
  obtain ⟨v, e⟩ := m_valuex (g := g) h
  unfold fX9_readsStack_217
  rw [e, Option.bind_some, gst_eq, if_neg h]
theorem t_numbers {k : gMem → Option (Int × gMem)} (hX : BX x n) : ∀ (m : Nat) (Mc Mm : gMem) (ps pb kd dg : Int) (R : gRow) (fu fu' : Nat), PN Mc b Mm a x n ps pb kd dg s R → rs R s 0 = room → rs R s 1 + m = room → m < fu → m < fu' → gEndS Mc b Mm a x n ps (gth (fX5_readNumbers_2 g fu b (b + 2 + 2 + (39 + 2 * s.toNat)) (rs R s 1) Mc) fun M => gth (fX5_takeSign g b 59 M) k) k (fX9_readsStack_181 g fu' a s room (rs R s 1) Mm) s := by
  intro m
  induction m with
  | zero =>
    intro Mc Mm ps pb kd dg R fu fu' h h0 hm hf hf'
    obtain ⟨fu, rfl⟩ := fuS hf
    obtain ⟨fu', rfl⟩ := fuS hf'
    have hh := h
    obtain ⟨T, hr, h2, hs, hO, hfs, hD⟩ := h
    have hsR : 0 ≤ s ∧ s < R 2 := by omega
    have hS := hD.2.2.1 s hsR.1 hsR.2
    have hOs := hO.2.2.2.2.2.2.2 s hsR.1 hsR.2
    have hl := hO.len hsR.1 hsR.2
    unfold fX5_readNumbers_2 fX9_readsStack_181
    rw [if_neg (by omega), if_pos T.m14, T.m12, m_isS1 hX (by omega) T, Option.bind_some]
    have full : gEndS Mc b Mm a x n ps (gth (fX5_readNumbers_28 g (fX5_readNumbers_2 g fu) b (b + 2 + 2 + (39 + 2 * s.toNat)) (rs R s 1) Mc) fun M => gth (fX5_takeSign g b 59 M) k) k (fX9_readsStack_205 g (fX9_readsStack_181 g fu') a s room (rs R s 1) Mm) s := by
      unfold fX5_readNumbers_28 fX9_readsStack_205
      rw [c_isFull hS, Option.bind_some, if_neg (show ¬ rs R s 1 < rs R s 0 by omega), if_neg (show ¬ (1 : Int) = 0 by omega), c_fails, T.c6, if_pos (by omega), m_fails T.m14, T.m10]
      simp only [Option.bind_some]
      rw [w_217 (by rw [gEm_14]; omega)]
      exact Or.inr ⟨_, _, rfl, rfl, gER.of (by omega), gCE.err, gMR.err⟩
    by_cases k1 : kd = 1
    · rw [if_pos k1, if_pos ((t7 T).2.1.mpr k1)]
      exact full
    · rw [if_neg k1, if_neg (fun z => k1 ((t7 T).2.1.mp z))]
      by_cases k2 : kd = 2 ∧ x ps.toNat = 45
      · rw [if_pos (((t7 T).2.2.2 45 (by omega) (by omega)).mpr k2), if_pos k2, if_neg (show ¬ (1 : Int) = 0 by omega)]
        exact full
      · rw [if_neg (fun z => k2 (((t7 T).2.2.2 45 (by omega) (by omega)).mp z)), if_neg k2, if_pos rfl, gth_1]
        exact t_248 hX hh
  | succ m ih =>
    intro Mc Mm ps pb kd dg R fu fu' h h0 hm hf hf'
    obtain ⟨fu, rfl⟩ := fuS hf
    obtain ⟨fu', rfl⟩ := fuS hf'
    have hh := h
    obtain ⟨T, hr, h2, hs, hO, hfs, hD⟩ := h
    have hsR : 0 ≤ s ∧ s < R 2 := by omega
    have hS := hD.2.2.1 s hsR.1 hsR.2
    have hOs := hO.2.2.2.2.2.2.2 s hsR.1 hsR.2
    have hroom := hOs.1
    have hl := hO.len hsR.1 hsR.2
    unfold fX5_readNumbers_2 fX9_readsStack_181
    rw [if_neg (by omega), if_pos T.m14, T.m12, m_isS1 hX (by omega) T, Option.bind_some]
    have more : gEndS Mc b Mm a x n ps (gth (fX5_readNumbers_28 g (fX5_readNumbers_2 g fu) b (b + 2 + 2 + (39 + 2 * s.toNat)) (rs R s 1) Mc) fun M => gth (fX5_takeSign g b 59 M) k) k (fX9_readsStack_205 g (fX9_readsStack_181 g fu') a s room (rs R s 1) Mm) s := by
      unfold fX5_readNumbers_28 fX9_readsStack_205 fX9_readsStack_217
      rw [c_isFull hS, Option.bind_some, if_pos (show rs R s 1 < rs R s 0 by omega), if_pos rfl, if_neg (by omega)]
      rcases t_value (g := g) hX T with ⟨v, M1, N1, ps1, pb1, kd1, dg1, e1, e2, T1, a1, a2, a3, F1, F2⟩ | ⟨v, M1, N1, e1, e2, E, F1, F2⟩
      · have hN : N1 (a + 1) = rup (rss R s 1 0) 2 s := by rw [F2.1 (a + 1) (by omega)]; exact hr
        have hD1 : DR M1 (b + 2) R 0 := hD.tok hO F1.1
        obtain ⟨M2, e3, D2, F3⟩ := c_addTop (g := g) (v := v) hO hD1 hsR (by omega)
        have O2 := qOK_push (v := v) hO hsR (by omega) a2
        have er : rss (rup (rss R s 1 0) 2 s) s (5 + rs R s 1) v = rup (rss (qPush R s v) s 1 0) 2 s := by
          unfold qPush rss
          rw [rup_over, rup_comm (show ¬ (2 : Int).toNat = (694 + 21 * s + (5 + rs R s 1)).toNat by rw [tn2]; omega)]
          congr 1
          exact rup_comm (by omega)
        have hlo : ∀ j : Nat, j < 694 + 21 * s ∨ 694 + 21 * (s + 1) ≤ (j : Int) → qPush R s v j = R j := fun j q => by
          unfold qPush
          rw [show ∀ (r : gRow) (k v : Int), 0 ≤ k → k < 21 → rss r s k v j = r j from fun r k v h1 h2 => rup_miss (by omega), show ∀ (r : gRow) (k v : Int), 0 ≤ k → k < 21 → rss r s k v j = r j from fun r k v h1 h2 => rup_miss (by omega)]
          all_goals omega
        have p1 : rs (qPush R s v) s 1 = rs R s 1 + 1 := rs_rss_eq
        have p0 : rs (qPush R s v) s 0 = rs R s 0 := by
          unfold qPush
          rw [rs_rss_ne hs.1 hs.1 (by omega) (by omega) (by omega), rs_rss_ne hs.1 hs.1 (by omega) (by omega) (by omega)]
        have P2 : PN M2 b (mrow N1 (a + 1) (rup (rss (qPush R s v) s 1 0) 2 s)) a x n ps1 pb1 kd1 dg1 s (qPush R s v) :=
          ⟨(T1.desk F3).row, mrow_at _ _ _, by rw [hlo 2 (by omega)]; exact h2, hs, O2, fun j q1 q2 => by rw [hlo j (Or.inr q1)]; exact hfs j q1 q2, D2⟩
        have I := ih M2 _ ps1 pb1 kd1 dg1 (qPush R s v) fu fu' P2 (by omega) (by omega) (by omega) (by omega)
        rw [e1, e2, Option.bind_some, Option.bind_some, gst_eq, if_neg (show ¬ (1 : Int) = 0 by omega)]
        show gEndS Mc b Mm a x n ps (gth ((fX3_addTop g (b + 2 + 2 + (39 + 2 * s.toNat)) (M1 b 10) M1).bind _) _) _ (if N1 a 14 = 0 then _ else _) _
        rw [a1, e3, Option.bind_some, gst_eq, gwi_eq (x := rs R s 1 + 1) (by omega) (by omega), if_pos T1.m14, gwi_eq (x := 5 + rs R s 1) (by omega) (by omega), m_putsR hN hs (by omega), Option.bind_some, er, gst_eq]
        rw [p1] at I
        have hto := T.to.1
        exact I.weak (F1.cs.trans F3.cs) (F2.mr.trans gMR.row) (by omega)
      · rw [e1, e2, Option.bind_some, Option.bind_some, gst_eq, if_pos rfl, gth_0, if_neg E.ne]
        exact Or.inr ⟨M1, N1, rfl, rfl, E, F1.ce, F2.mr⟩
    by_cases k1 : kd = 1
    · rw [if_pos k1, if_pos ((t7 T).2.1.mpr k1)]
      exact more
    · rw [if_neg k1, if_neg (fun z => k1 ((t7 T).2.1.mp z))]
      by_cases k2 : kd = 2 ∧ x ps.toNat = 45
      · rw [if_pos (((t7 T).2.2.2 45 (by omega) (by omega)).mpr k2), if_pos k2, if_neg (show ¬ (1 : Int) = 0 by omega)]
        exact more
      · rw [if_neg (fun z => k2 (((t7 T).2.2.2 45 (by omega) (by omega)).mp z)), if_neg k2, if_pos rfl, gth_1]
        exact t_248 hX hh
/-! where the stack is -/
theorem w_143S {hand slot : Int} (h : ¬ Mm a 14 = 0) : fX9_readsStack_143 g a s room hand slot Mm = some Mm := by
  unfold fX9_readsStack_143
  rw [m_mustx h, Option.bind_some, if_neg h]
theorem w_70S {hand slot : Int} (h : ¬ Mm a 14 = 0) : fX9_readsStack_70 g a s room hand slot Mm = some Mm := by
  unfold fX9_readsStack_70
  rw [if_neg h, w_143S h]
/-- the reference behind the room -/
def fWhere (g : Nat → Nat) (a : Nat) (s room : Int) (M : gMem) : Option gMem :=
  (fX9_isWord g a 59 M).bind fun x_9 => if x_9 = 0 then ((fX9_isWord g a 60 M).bind fun x_12 => (fX9_must g a x_12 M).bind fun M_14 => if (0 : Int) ≤ 0 ∧ (0 : Int) < 1190 then (fX9_stands g a 0 (gwi (M_14 (a + 1) (0 : Int).toNat - 1)) M_14).bind fun q_18 => gst q_18.1 fun x_19 => if q_18.2 a 14 = 0 then ((fX9_onSlot g a x_19 q_18.2).bind fun x_23 => if x_23 = (-1) then (fX9_readsStack_143 g a s room (-1) x_19 q_18.2) else ((fX9_fails g a ((-5)) q_18.2).bind fun M_26 => fX9_readsStack_143 g a s room (-1) x_19 M_26)) else (fX9_readsStack_143 g a s room (-1) x_19 q_18.2) else none) else ((fX9_next g a M).bind fun M_28 => (fX9_mustName g a M_28).bind fun M_30 => (fX9_named g a M_30).bind fun x_32 => if x_32 = (-1) then ((fX9_fails g a ((-4)) M_30).bind fun M_35 => fX9_readsStack_70 g a s room x_32 (-1) M_35) else (fX9_readsStack_70 g a s room x_32 (-1) M_30))
theorem w_whereS (h : ¬ Mm a 14 = 0) : fWhere g a s room Mm = some Mm := by
  unfold fWhere
  rw [m_isWx h, Option.bind_some, if_pos rfl, m_isWx h, Option.bind_some, m_mustx h, Option.bind_some, if_pos (by omega), m_standsx h, Option.bind_some, gst_eq, if_neg h, w_143S h]
theorem DA.P (hO : qOK r 0) (h : DA M d r s room) : DRP M d r := fun q q1 q2 => by
  have hOp := hO.p ⟨q1, q2⟩
  exact (h.1.2.1 q q1 q2).congr (fun _ _ _ => rfl) rfl hOp.2.2.2.1.2 hOp.2.2.2.2.2.2.2.2.2.1.1 (gup_row (by omega)).symm (gup_row (by omega)).symm (gup_row (by omega)).symm (gup_row (by omega)).symm
theorem DA.L (h : DA M d r s room) : DRL M d r := fun k q1 q2 => by
  have := h.1.2.2.2.1 k q1 q2
  rwa [gup_row (by omega)] at this
theorem DA.n4 (h : DA M d r s room) : M d 4 = r 0 ∧ M d 5 = r 1 := by
  obtain ⟨A4, A5, -⟩ := h.1.1
  rw [gup_miss (by omega)] at A4 A5
  exact ⟨A4, A5⟩
theorem DA.tok {M M' : gMem} (hO : qOK r 0) (h : DA M (b + 2) r s room) (hs : 0 ≤ s ∧ s < 12) (hf : ∀ y : Nat, ¬ y = b → M' y = M y) : DA M' (b + 2) r s room := h.frame hO hs (fun y q1 _ => hf y (by omega))
/-- the last steps on both sides: the stack is told in the row -/
theorem t_143S {hand slot : Int} (hX : BX x n) (T : TK Mc b Mm a x n ps pb kd dg) (hr : Mm (a + 1) = r) (hO : qOK r 0) (h2 : r 2 = s) (hs : 0 ≤ s ∧ s < 12) (hfs : qFreS r s) (hroom : 1 ≤ room ∧ room ≤ 16) (hw : qPl r hand slot) {Mc1 N1 : gMem} {ps1 pb1 kd1 dg1 : Int} (e2 : fX9_next g a Mm = some N1) (F2 : gF9 a Mm N1) (T1 : TK Mc1 b N1 a x n ps1 pb1 kd1 dg1) (hD : DR Mc1 (b + 2) (qPile r s room hand slot) 0) :
    ∃ Mm', fX9_readsStack_143 g a s room hand slot Mm = fX9_readsStack_181 g gF a s room 0 Mm' ∧ PN Mc1 b Mm' a x n ps1 pb1 kd1 dg1 s (qPile r s room hand slot) ∧ rs (qPile r s room hand slot) s 0 = room ∧ rs (qPile r s room hand slot) s 1 = 0 ∧ gMR a Mm Mm' := by
  have hN : N1 (a + 1) = r := by rw [F2.1 (a + 1) (by omega)]; exact hr
  have z1 : rs r s 1 = 0 := hfs _ (by omega) (by omega)
  have x0 : rs (qPile r s room hand slot) s 0 = room := by rw [qPile_rs hs hs.1 (by omega), if_neg (by omega), if_neg (by omega), if_pos ⟨rfl, rfl⟩]
  have x1 : rs (qPile r s room hand slot) s 1 = 0 := by rw [qPile_rs hs hs.1 (by omega), if_neg (by omega), if_neg (by omega), if_neg (by omega)]; exact z1
  have er : rup (rss (qPile r s room hand slot) s 1 0) 2 s = rss (rss (rss r s 0 room) s 2 hand) s 3 slot := by
    have e1 : rss (qPile r s room hand slot) s 1 0 = qPile r s room hand slot := by
      have := rup_same (r := qPile r s room hand slot) (i := 694 + 21 * s + 1)
      unfold rs at x1
      rw [x1] at this
      exact this
    rw [e1]
    unfold qPile
    rw [rup_over]
    have e3 : (rss (rss (rss r s 0 room) s 2 hand) s 3 slot) (2 : Int).toNat = s := by
      rw [tn2, rss_lo hs.1 (by omega) (by omega), rss_lo hs.1 (by omega) (by omega), rss_lo hs.1 (by omega) (by omega)]
      exact h2
    have := rup_same (r := rss (rss (rss r s 0 room) s 2 hand) s 3 slot) (i := 2)
    rw [e3] at this
    exact this
  refine ⟨mrow N1 (a + 1) (rss (rss (rss r s 0 room) s 2 hand) s 3 slot), ?_, ⟨T1.row, by rw [mrow_at, er], qPile_2, hs, qOK_pile hO h2 hs hfs hroom hw, fun j q1 q2 => ?_, hD⟩, x0, x1, F2.mr.trans gMR.row⟩
  · unfold fX9_readsStack_143
    rw [m_must1 T.m14, e2, Option.bind_some, if_pos T1.m14, m_putsR hN hs (by omega), Option.bind_some, m_puts hs (by omega), Option.bind_some, m_puts hs (by omega), Option.bind_some]
  · rw [qPile_o hs (by omega) (by omega)]; exact hfs j (by omega) q2
theorem c_procAt5 (h5 : M d 5 = r 1) (h1 : 1 ≤ r 1 ∧ r 1 ≤ 8) {p : Int} : fX0_procAt g d p M = some (if 0 ≤ p ∧ p < r 1 then d + 1 + (8 + 4 * p.toNat) else 0) := by
  unfold fX0_procAt
  rw [h5]
  by_cases h : 0 ≤ p ∧ p < r 1
  · simp (disch := omega) only [if_pos, if_neg]
  · by_cases hp : p < 0
    · rw [if_pos hp, if_neg h]
    · rw [if_neg hp, if_pos (by omega), if_neg h]
def gEndW (Mc : gMem) (b : Nat) (Mm : gMem) (a : Nat) (x : gRow) (n ps : Int) (F : Option (Int × gMem)) (k : gMem → Option (Int × gMem)) (G : Option gMem) (g : Nat → Nat) (s room : Int) : Prop :=
  (∃ Mc' Mm' ps' pb' kd' dg' R', F = k Mc' ∧ G = fX9_readsStack_181 g gF a s room 0 Mm' ∧ PN Mc' b Mm' a x n ps' pb' kd' dg' s R' ∧ rs R' s 0 = room ∧ rs R' s 1 = 0 ∧ ps ≤ ps' ∧ gCs b Mc Mc' ∧ gMR a Mm Mm') ∨
  (∃ Mc' Mm', F = some (0, Mc') ∧ G = some Mm' ∧ gER Mc' b Mm' a ∧ gCE b Mc Mc' ∧ gMR a Mm Mm')
theorem t_where {k : gMem → Option (Int × gMem)} (hX : BX x n) (T : TK Mc b Mm a x n ps pb kd dg) (hr : Mm (a + 1) = r) (hO : qOK r 0) (h2 : r 2 = s) (hs : 0 ≤ s ∧ s < 12) (hfs : qFreS r s) (hroom : 1 ≤ room ∧ room ≤ 16) (hA : DA Mc (b + 2) r s room) : gEndW Mc b Mm a x n ps (gth (fX5_readWhere g b Mc) k) k (fWhere g a s room Mm) g s room := by
  have hn := hX.1
  have hto := T.to
  have hr0 := hO.1
  have hr1 := hO.2.1
  unfold fX5_readWhere fWhere
  rw [hA.2.1, gst_eq, gwi_eq (by omega) (by omega), show s + 1 - 1 = s by omega]
  by_cases hwi : qIsW x ps pb kd (gtx 19)
  · obtain ⟨M1, N1, ps1, pb1, kd1, dg1, e1, e2, T1, q1, F1, F2⟩ := t_next (g := g) hX T
    have hN : N1 (a + 1) = r := by rw [F2.1 (a + 1) (by omega)]; exact hr
    have hA1 := hA.tok hO hs F1.1
    have hto1 := T1.to
    rw [c_isW (by omega) T hwi, m_isW (t := 19) (by omega) hX T hwi, Option.bind_some, Option.bind_some, if_neg (show ¬ (1 : Int) = 0 by omega), if_neg (show ¬ (1 : Int) = 0 by omega), e1, e2, Option.bind_some, Option.bind_some]
    unfold fX5_readHolder
    by_cases hNm : qNm ps1 pb1 kd1
    · have hkd := hNm.1
      have hNm2 := hNm.2
      have hto2 := hto1.1
      have hlt := hto1.2.2.2.2.1 (by omega)
      have hlet := hto1.2.2.2.2.2.1 hkd
      have e8 : M1 b 8 = qPack (tw x ps1) (pb1 - ps1).toNat := by rw [T1.2.2.1.2.2.2.1 hkd, if_pos hNm.2]
      rw [(c_isName T1).1 hNm, Option.bind_some, if_neg (show ¬ (1 : Int) = 0 by omega), (m_mustName hn.2 T1).1 hNm, Option.bind_some, m_named hX T1 hN (by omega), Option.bind_some, e8, c_named (r := r) (f := tw x ps1) (len := pb1 - ps1) (by omega) hlet (by omega) hA1.n4.2 (hA1.P hO), Option.bind_some, c_procAt5 hA1.n4.2 hr1, Option.bind_some]
      have hin : qNamed r (tw x ps1) (pb1 - ps1) = -1 ∨ (0 ≤ qNamed r (tw x ps1) (pb1 - ps1) ∧ qNamed r (tw x ps1) (pb1 - ps1) < r 1) := by
        unfold qNamed
        rcases qFind_spec (qSameN r (tw x ps1) (pb1 - ps1)) (r 1).toNat 0 with ⟨z, -⟩ | ⟨z1, z2, -, -⟩
        · exact Or.inl z
        · exact Or.inr ⟨z1, by omega⟩
      generalize qNamed r (tw x ps1) (pb1 - ps1) = p at hin ⊢
      rcases hin with hp | hp
      · rw [if_neg (show ¬ (0 ≤ p ∧ p < r 1) by omega), if_pos rfl, if_pos hp, c_fails, T1.c6, m_fails T1.m14, T1.m10]
        simp only [Option.bind_some]
        rw [w_70S (by rw [gEm_14]; omega)]
        exact Or.inr ⟨_, _, rfl, rfl, gER.of (by omega), F1.cs.e.trans gCE.err, F2.mr.trans gMR.err⟩
      · rw [if_pos hp, if_neg (show ¬ b + 2 + 1 + (8 + 4 * p.toNat) = 0 by omega), if_neg (show ¬ p = -1 by omega), ((hA1.P hO) p hp.1 hp.2).2.1]
        unfold fX9_readsStack_70
        rw [if_pos T1.m14, m_inHandR hN hO.2.2.1, Option.bind_some]
        by_cases hh : qInHand r p = -1
        · obtain ⟨M2, e3, D2, F3⟩ := c_pileHand (g := g) hO h2 hs hfs hroom hp hh hA1
          obtain ⟨M3, N3, ps3, pb3, kd3, dg3, e4, e5, T3, q3, F4, F5⟩ := t_next (g := g) hX (T1.desk F3)
          have hw : qPl r p (-1) := Or.inr ⟨rfl, hp.1, hp.2, hh⟩
          obtain ⟨N4, e6, P4, y0, y1, F6⟩ := t_143S (g := g) hX T1 hN hO h2 hs hfs hroom hw e5 F5 T3 (D2.tok (qOK_pile hO h2 hs hfs hroom hw) F4.1)
          rw [if_pos hh, if_pos hh, e3, Option.bind_some, e4, Option.bind_some, Option.bind_some, gth_1, e6]
          exact Or.inl ⟨M3, N4, ps3, pb3, kd3, dg3, _, rfl, rfl, P4, y0, y1, by have := T1.to.1; have := T.to.1; omega, (F1.cs.trans F3.cs).trans F4.cs, F2.mr.trans F6⟩
        · rw [if_neg hh, if_neg hh, c_fails, T1.c6, m_fails T1.m14, T1.m10]
          simp only [Option.bind_some]
          rw [w_143S (by rw [gEm_14]; omega)]
          exact Or.inr ⟨_, _, rfl, rfl, gER.of (by omega), F1.cs.e.trans gCE.err, F2.mr.trans gMR.err⟩
    · have hw : ¬ gEm N1 a (-2) ps1 a 14 = 0 := by rw [gEm_14]; omega
      rw [(c_isName T1).2 hNm, Option.bind_some, if_pos rfl, c_fails, T1.c6, (m_mustName hn.2 T1).2 hNm]
      simp only [Option.bind_some, m_namedx hw, if_true, m_failsx hw, w_70S hw]
      exact Or.inr ⟨_, _, rfl, rfl, gER.of (by omega), F1.cs.e.trans gCE.err, F2.mr.trans gMR.err⟩
  · rw [c_isW0 (by omega) T hwi, m_isW0 (t := 19) (by omega) hX T hwi, Option.bind_some, Option.bind_some, if_pos rfl, if_pos rfl]
    by_cases hat : qIsW x ps pb kd (gtx 20)
    · obtain ⟨M1, N1, ps1, pb1, kd1, dg1, e1, e2, T1, q1, F1, F2⟩ := t_next (g := g) hX T
      have hN : N1 (a + 1) = r := by rw [F2.1 (a + 1) (by omega)]; exact hr
      have hA1 := hA.tok hO hs F1.1
      have hto1 := T1.to
      rw [c_word1 (by omega) T hat, e1, m_isW (t := 20) (by omega) hX T hat, Option.bind_some, Option.bind_some, Option.bind_some, if_neg (show ¬ (1 : Int) = 0 by omega), m_must1 T.m14, e2, Option.bind_some, if_pos (show (0 : Int) ≤ 0 ∧ (0 : Int) < 1190 by omega)]
      show gEndW Mc b Mm a x n ps (gth (gst (M1 b 6) fun x_10 => (fX5_takeNumber g b 0 (gwi (M1 (b + 2) 4 - 1)) M1).bind _) k) k _ g s room
      rw [gst_eq, hA1.n4.1, T1.c6, tn0, hN, gwi_eq (by omega) (by omega), m_stands T1.m14 T1.m12 T1.m13 T1.m10, Option.bind_some, c_num (by omega) T1]
      by_cases hq : qNE kd1 dg1 0 (r 0 - 1) = 0
      · have hrg : 0 ≤ dg1 ∧ dg1 < r 0 := by
          unfold qNE at hq
          split at hq
          · split at hq <;> omega
          · omega
        have T10 : TK (gup M1 b 10 dg1) b N1 a x n ps1 pb1 kd1 dg1 := T1.cc (fun j q => gup_miss (by omega)) (gup_row (by omega))
        obtain ⟨M2, N2, ps2, pb2, kd2, dg2, e3, e4, T2, q2, F3, F4⟩ := t_next (g := g) hX T10
        have v10 : M2 b 10 = dg1 := by rw [F3.2 10 (by omega)]; exact gup_hit rfl rfl
        have hA2 : DA M2 (b + 2) r s room := hA1.tok hO hs (fun y q => by rw [F3.1 y q, gup_row q])
        have Fc : gCs b Mc M2 := (F1.cs.trans (gFS.up (M := M1) (j := 10) (v := dg1) (by omega)).cs).trans F3.cs
        rw [if_pos hq, if_pos hq, e3, Option.bind_some]
        simp only [gst_eq]
        rw [if_pos T1.m14, m_onSlotR hN hO.2.2.1, Option.bind_some, Option.bind_some, if_neg (show ¬ (1 : Int) = 0 by omega)]
        dsimp only
        rw [v10, c_lyingOn hA2.L hr0.2 hrg, Option.bind_some]
        by_cases hh : qOnSlot r dg1 = -1
        · obtain ⟨M3, e5, D3, F5⟩ := c_pileSlot (g := g) hO h2 hs hfs hroom hrg hh hA2
          have hw : qPl r (-1) dg1 := Or.inl ⟨rfl, hrg.1, hrg.2, hh⟩
          obtain ⟨N4, e6, P4, y0, y1, F6⟩ := t_143S (g := g) hX T1 hN hO h2 hs hfs hroom hw e4 F4 (T2.desk F5) D3
          rw [if_pos hh, if_pos hh, e5, Option.bind_some, gth_1, e6]
          exact Or.inl ⟨M3, N4, ps2, pb2, kd2, dg2, _, rfl, rfl, P4, y0, y1, by have := T1.to.1; have := T.to.1; omega, Fc.trans F5.cs, F2.mr.trans F6⟩
        · rw [if_neg hh, if_neg hh, c_fails, m_fails T1.m14, T1.m10]
          simp only [Option.bind_some]
          rw [w_143S (by rw [gEm_14]; omega)]
          exact Or.inr ⟨_, _, rfl, rfl, gER.of (by omega), Fc.e.trans gCE.err, F2.mr.trans gMR.err⟩
      · have hw : ¬ gEm N1 a (qNE kd1 dg1 0 (r 0 - 1)) ps1 a 14 = 0 := by rw [gEm_14]; exact hq
        rw [if_neg hq, if_neg hq]
        simp only [gst_eq]
        rw [if_neg hw, w_143S hw]
        exact Or.inr ⟨_, _, rfl, rfl, gER.of hq, F1.cs.e.trans gCE.err, F2.mr.trans gMR.err⟩
    · have hw : ¬ gEm Mm a (-2) ps a 14 = 0 := by rw [gEm_14]; omega
      rw [c_word0 (by omega) T hat, m_isW0 (t := 20) (by omega) hX T hat, Option.bind_some, Option.bind_some, if_pos rfl, gth_0, m_must0 T.m14, Option.bind_some, if_pos (by omega), T.m10, m_standsx hw, Option.bind_some, gst_eq, if_neg hw, w_143S hw]
      exact Or.inr ⟨_, _, rfl, rfl, gER.of (by omega), gCE.err, gMR.err⟩
/-- the class behind the word 'stack' -/
def gStack (g : Nat → Nat) (b : Nat) (k : gMem → Option (Int × gMem)) (M : gMem) : Option (Int × gMem) :=
  (fX5_next g b M).bind fun M_8 => gth (fX5_takeNumber g b 1 16 M_8) fun M => (fX0_addPile g (b + 2) (M b 10) M).bind fun q_14 => if q_14.1 = 0 then ((fX5_fails g b ((-6)) (q_14.2 b 6) q_14.2).bind fun q_28 => some (q_28.1, q_28.2)) else gth (fX5_readWhere g b q_14.2) fun M => gth (fX5_readNumbers g b q_14.1 M) fun M => gth (fX5_takeSign g b 59 M) k
theorem t_stack {k : gMem → Option (Int × gMem)} (hX : BX x n) (h : PS Mc b Mm a x n ps pb kd dg r) (h2 : r 2 = s) : gEndS Mc b Mm a x n ps (if Mc (b + 2) 6 < 12 then gStack g b k Mc else ((fX5_fails g b ((-6)) (Mc b 6) Mc).bind fun q_31 => some (q_31.1, q_31.2))) k (fX9_readsStack g a Mm) s := by
  obtain ⟨T, hr, hO, hfs, hD⟩ := h
  have hr2 := hO.2.2.1
  have hto := T.to
  have e6 : Mc (b + 2) 6 = s := by rw [hD.1.2.2.1]; exact h2
  have er2 : Mm (a + 1) (2 : Int).toNat = s := by rw [tn2, hr]; exact h2
  have eM : ∀ M : gMem, fX9_readsStack_19 g a s M = ((fX9_must g a 1 M).bind fun M_2 => (fX9_takes g a 1 16 M_2).bind fun q_4 => fWhere g a s q_4.1 q_4.2) := fun M => rfl
  rw [h2] at hfs
  unfold fX9_readsStack
  rw [e6, er2, if_pos (show (0 : Int) ≤ 2 ∧ (2 : Int) < 1190 by omega), gst_eq]
  by_cases h12 : s = 12
  · have hw : ¬ gEm Mm a (-6) ps a 14 = 0 := by rw [gEm_14]; omega
    rw [if_neg (show ¬ s < 12 by omega), if_pos h12, m_fails T.m14, Option.bind_some, T.m10, eM, m_mustx hw, Option.bind_some, m_takesx hw, Option.bind_some, w_whereS hw, c_fails, T.c6]
    exact Or.inr ⟨_, _, rfl, rfl, gER.of (by omega), gCE.err, gMR.err⟩
  · have hs : 0 ≤ s ∧ s < 12 := by omega
    obtain ⟨M1, N1, ps1, pb1, kd1, dg1, e1, e2, T1, q1, F1, F2⟩ := t_next (g := g) hX T
    have hN : N1 (a + 1) = r := by rw [F2.1 (a + 1) (by omega)]; exact hr
    unfold gStack
    rw [if_pos (show s < 12 by omega), if_neg h12, eM, m_must1 T.m14, e2, e1, Option.bind_some, Option.bind_some]
    rcases t_num (g := g) (lo := 1) (hi := 16) hX (by omega) T1 with ⟨hq, hrg, M2, N2, ps2, pb2, kd2, dg2, a1, a2, -, T2, a3, a4, G1, G2⟩ | ⟨hq, M2, N2, a1, a2, -, E, G1, G2⟩
    · have hN2 : N2 (a + 1) = r := by rw [G2.1 (a + 1) (by omega)]; exact hN
      have hD2 : DR M2 (b + 2) r 0 := (hD.tok hO F1.1).tok hO G1.1
      obtain ⟨M3, e3, A3, F3⟩ := c_addPile (g := g) (room := dg1) hO hD2 h2 hs
      rw [a1, gth_1, a2, Option.bind_some, a3, e3, Option.bind_some, if_neg (show ¬ b + 2 + 2 + (39 + 2 * s.toNat) = 0 by omega)]
      have Fc : gCs b Mc M3 := (F1.cs.trans G1.cs).trans F3.cs
      have Fm : gMR a Mm N2 := F2.mr.trans G2.mr
      have hto1 := T1.to.1
      rcases t_where (g := g) (k := fun M => gth (fX5_readNumbers g b (b + 2 + 2 + (39 + 2 * s.toNat)) M) fun M => gth (fX5_takeSign g b 59 M) k) hX (T2.desk F3) hN2 hO h2 hs hfs (by omega) A3 with ⟨M4, N4, ps4, pb4, kd4, dg4, R4, b1, b2, P4, y0, y1, q4, H1, H2⟩ | ⟨M4, N4, b1, b2, E, H1, H2⟩
      · have I := t_numbers (g := g) (k := k) (room := dg1) hX dg1.toNat M4 N4 ps4 pb4 kd4 dg4 R4 gF gF P4 y0 (by omega) (by unfold gF; omega) (by unfold gF; omega)
        rw [y1] at I
        show gEndS Mc b Mm a x n ps (gth (fX5_readWhere g b M3) _) k (fWhere g a s dg1 N2) s
        rw [b1, b2]
        exact I.weak (Fc.trans H1) (Fm.trans H2) (by have := hto.1; omega)
      · show gEndS Mc b Mm a x n ps (gth (fX5_readWhere g b M3) _) k (fWhere g a s dg1 N2) s
        rw [b1, b2]
        exact Or.inr ⟨M4, N4, rfl, rfl, E, Fc.e.trans H1, Fm.trans H2⟩
    · rw [a1, gth_0, a2, Option.bind_some]
      show gEndS Mc b Mm a x n ps _ k (fWhere g a s 0 N2) s
      rw [w_whereS E.ne]
      exact Or.inr ⟨M2, N2, rfl, rfl, E, F1.cs.e.trans G1.ce, F2.mr.trans G2.mr⟩
/-- all stacks: the class is through with the text, the reference at its end -/
theorem t_stacks (hX : BX x n) : ∀ (m : Nat) (Mc Mm : gMem) (ps pb kd dg : Int) (r : gRow) (fu fu' : Nat), PS Mc b Mm a x n ps pb kd dg r → r 2 + m = 13 → m < fu → m < fu' →
    (∃ Mc' Mm' ps' pb' kd' dg' r', fX5_readStacks_2 g fu b (r 2) Mc = some (1, Mc') ∧ fX9_load_88 g fu' a Mm = fX9_load_88 g 1 a Mm' ∧ PS Mc' b Mm' a x n ps' pb' kd' dg' r' ∧ ¬ qIsW x ps' pb' kd' (gtx 18) ∧ gCs b Mc Mc' ∧ gMR a Mm Mm') ∨
    (∃ Mc' Mm', fX5_readStacks_2 g fu b (r 2) Mc = some (0, Mc') ∧ fX9_load_88 g fu' a Mm = fX9_load_88 g 1 a Mm' ∧ gER Mc' b Mm' a ∧ gCE b Mc Mc' ∧ gMR a Mm Mm') := by
  intro m
  induction m with
  | zero =>
    intro Mc Mm ps pb kd dg r fu fu' h hm hf hf'
    have := h.2.2.1.2.2.1
    omega
  | succ m ih =>
    intro Mc Mm ps pb kd dg r fu fu' h hm hf hf'
    obtain ⟨fu, rfl⟩ := fuS hf
    obtain ⟨fu', rfl⟩ := fuS hf'
    have T := h.1
    have hr2 := h.2.2.1.2.2.1
    by_cases hw : qIsW x ps pb kd (gtx 18)
    · have eC : fX5_readStacks_2 g (fu + 1) b (r 2) Mc = (if Mc (b + 2) 6 < 12 then gStack g b (fun M => fX5_readStacks_2 g fu b (gwi (r 2 + 1)) M) Mc else ((fX5_fails g b ((-6)) (Mc b 6) Mc).bind fun q_31 => some (q_31.1, q_31.2))) := by
        conv => lhs; unfold fX5_readStacks_2
        rw [if_neg (by omega), c_isW (by omega) T hw, Option.bind_some, if_neg (by omega)]
        rfl
      have eM : ∀ f : Nat, fX9_load_88 g (f + 1) a Mm = (fX9_readsStack g a Mm).bind fun M_11 => fX9_load_88 g f a M_11 := fun f => by
        conv => lhs; unfold fX9_load_88
        rw [m_isW (t := 18) (by omega) hX T hw, Option.bind_some, if_neg (by omega)]
      rw [eC, eM]
      rcases t_stack (g := g) (k := fun M => fX5_readStacks_2 g fu b (gwi (r 2 + 1)) M) hX h rfl with ⟨M1, N1, ps1, pb1, kd1, dg1, r1, e1, e2, A1, q1, q2, F1, F2⟩ | ⟨M1, N1, e1, e2, E, F1, F2⟩
      · rw [e1, e2, Option.bind_some, gwi_eq (by omega) (by omega), ← q1]
        rcases ih M1 N1 ps1 pb1 kd1 dg1 r1 fu fu' A1 (by omega) (by omega) (by omega) with ⟨M2, N2, ps2, pb2, kd2, dg2, r2, a1, a2, A2, b1, G1, G2⟩ | ⟨M2, N2, a1, a2, E, G1, G2⟩
        · exact Or.inl ⟨M2, N2, ps2, pb2, kd2, dg2, r2, a1, a2, A2, b1, F1.trans G1, F2.trans G2⟩
        · exact Or.inr ⟨M2, N2, a1, a2, E, F1.e.trans G1, F2.trans G2⟩
      · rw [e1, e2, Option.bind_some]
        refine Or.inr ⟨M1, N1, rfl, ?_, E, F1, F2⟩
        obtain ⟨fu', rfl⟩ := fuS (show 0 < fu' by omega)
        show fX9_load_88 g (fu' + 1) a N1 = fX9_load_88 g (0 + 1) a N1
        unfold fX9_load_88
        rw [m_isWx E.ne, Option.bind_some, Option.bind_some, if_pos rfl, if_pos rfl]
    · refine Or.inl ⟨Mc, Mm, ps, pb, kd, dg, r, ?_, ?_, h, hw, gCs.rfl', gMR.rfl'⟩
      · unfold fX5_readStacks_2
        rw [if_neg (by omega), c_isW0 (by omega) T hw, Option.bind_some, if_pos rfl]
      · show fX9_load_88 g (fu' + 1) a Mm = fX9_load_88 g (0 + 1) a Mm
        unfold fX9_load_88
        rw [m_isW0 (t := 18) (by omega) hX T hw, Option.bind_some, Option.bind_some, if_pos rfl, if_pos rfl]
end Stack
