/-! PURE: the calls that are left -/
section Rel2
variable {M M' M1 M2 : gMem} {K K' n xn ep : Int} {r r' x : gRow} {kept : Nat → gRow} {fl : Nat → Int} {sv : Nat → gRow} {L : List Int}
theorem k_undo (h : REL M K) : ∃ res M1 M2, fX8_undo gsh 1 M = some (res, M1) ∧ fX9_undo gsh 855 M1 = some (qWert res, M2) ∧ M2 855 7 = qThr 1 res ∧ (∀ e, res = .inl e → e = 1) ∧ REL M2 K := by
  obtain ⟨r, n, kept, fl, sv, x, xn, ep, L, hC, hM, hG⟩ := h
  have hO := hC.1
  have hn := hG.2.1
  obtain ⟨M1, e1, D1, O1, K1, F1⟩ := a_undo (g := gsh) (a := 1) hO hC.2.1 hC.2.2.1 hn
  have hKM : KM M1 855 n kept := hM.2.1.frame (by rw [F1 855 (by omega)]) (F1 _ (by omega))
  obtain ⟨N, r', e2, q, K2, v7, F2⟩ := b_undo (g := gsh) (a := 855) (M := M1) (r := r) gl1 gl4 hKM
  rw [row_in1 hM (F1 856 (by omega))] at e2
  by_cases h0 : n = 0
  · simp only [if_pos h0] at e1 D1 O1 K1 e2 q K2 v7
    refine ⟨.inl 1, M1, _, e1, e2, by rw [mrow_ne (by omega), v7]; rfl, fun e h => (Sum.inl.inj h).symm, ?_⟩
    rw [q]
    exact REL.chg hC hM hG (Int.le_refl K) hG.1.2 hn O1 D1 K1 F1 K2 F2
  · simp only [if_neg h0] at e1 D1 O1 K1 e2 q K2 v7
    refine ⟨.inr (n - 1), M1, _, e1, e2, by rw [mrow_ne (by omega), v7]; rfl, fun e h => (by cases h), ?_⟩
    exact REL.chg hC hM hG (Int.le_refl K) hG.1.2 (by omega) (O1.eq q) (D1.eq O1 q) K1 F1 K2 F2
theorem s_restore {y1 : Int} {e : Nat} (h : (sRestore r fl sv y1).1 = .inl e) : e = 3 ∨ e = 1 := by
  unfold sRestore at h
  repeat' (split at h)
  all_goals (first | cases h | skip)
  all_goals (first | exact Or.inl rfl | exact Or.inr rfl | rfl)
theorem k_restore {y1 : Int} (h : REL M K) : ∃ res M1 M2, fX8_restore gsh 1 y1 M = some (res, M1) ∧ fX9_restore gsh 855 y1 M1 = some (qWert res, M2) ∧ M2 855 7 = qThr 3 res ∧ (∀ e, res = .inl e → e = 3 ∨ e = 1) ∧ REL M2 K := by
  obtain ⟨r, n, kept, fl, sv, x, xn, ep, L, hC, hM, hG⟩ := h
  have hO := hC.1
  have hn := hG.2.1
  obtain ⟨M1, e1, D1, O1, K1, F1⟩ := a_restore (g := gsh) (a := 1) (x := y1) hO hC.2.1 hC.2.2.1 hn hC.2.2.2.1
  have hKM : KM M1 855 n kept := hM.2.1.frame (by rw [F1 855 (by omega)]) (F1 _ (by omega))
  have hSM : SM M1 855 fl sv := hM.2.2.1.frame (F1 _ (by omega)) (F1 _ (by omega))
  obtain ⟨N, r', e2, q, K2, v7, F2⟩ := b_restore (g := gsh) (a := 855) (M := M1) (r := r) (x := y1) gl1 gl4 gl5 hKM hSM hG.2.2.1
  rw [row_in1 hM (F1 856 (by omega))] at e2
  exact ⟨(sRestore r fl sv y1).1, M1, _, e1, e2, by rw [mrow_ne (by omega)]; exact v7, fun e h => s_restore h, REL.chg hC hM hG (Int.le_refl K) hG.1.2 (qN_rng hn) (O1.eq q) (D1.eq O1 q) K1 F1 K2 F2⟩
theorem k_save {y1 : Int} (h : REL M K) : ∃ res M1 M2, fX8_save gsh 1 y1 M = some (res, M1) ∧ fX9_save gsh 855 y1 M1 = some M2 ∧ M2 855 7 = (match res with | .inl _ => 1 | .inr _ => 0) ∧ (∀ e, res = .inl e → e = 3) ∧ REL M2 K := by
  obtain ⟨r, n, kept, fl, sv, x, xn, ep, L, hC, hM, hG⟩ := h
  have hO := hC.1
  obtain ⟨M1, e1, S1, F1⟩ := a_save (g := gsh) (a := 1) (x := y1) hO hC.2.1 hC.2.2.2.1
  have hSM : SM M1 855 fl sv := hM.2.2.1.frame (F1 _ (by omega)) (F1 _ (by omega))
  obtain ⟨N, e2, S2, v7, F2⟩ := b_save (g := gsh) (a := 855) (M := M1) (r := r) (x := y1) gl1 gl5 hSM
  rw [row_in1 hM (F1 856 (by omega))] at e2
  have hlo : ∀ y : Nat, y < 855 → mrow N (855 + 1) r y = M1 y := fun y q => by rw [mrow_ne (by omega), F2.1 y (by omega) (by omega) (by omega) (by omega)]
  have hlo2 : ∀ y : Nat, y < 655 ∨ (785 < y ∧ y < 855) → mrow N (855 + 1) r y = M y := fun y q => by rw [hlo y (by omega), F1 y (by omega)]
  have hhi : ∀ y : Nat, y = 859 ∨ 862 ≤ y → mrow N (855 + 1) r y = M y := fun y q => by rw [mrow_ne (by omega), F2.1 y (by omega) (by omega) (by omega) (by omega), F1 y (by omega)]
  have fa : ∀ j : Nat, ¬ j = 7 → mrow N (855 + 1) r 855 j = M 855 j := fun j q => by rw [mrow_ne (by omega), F2.2 j q, F1 855 (by omega)]
  obtain ⟨c1, c2, c3, c4, c5, c6, c7⟩ := hC
  obtain ⟨a1, a2, a3, a4, a5, a6⟩ := hM
  refine ⟨_, M1, _, e1, e2, ?_, fun e h => ?_, ⟨r, n, kept, _, _, x, xn, ep, L, ⟨c1, c2.frame c1 (fun y q1 q2 => hlo2 y (by omega)), c3.frame (fun y q1 q2 => hlo2 y (by omega)) (Int.le_refl K), S1.frame (fun y q1 q2 => hlo y (by omega)) (Int.le_refl K), c5.frame (hlo2 _ (by omega)) (hlo2 _ (by omega)), by rw [hlo2 _ (by omega)]; exact c6, c7.frame (hlo2 _ (by omega)) (hlo2 _ (by omega))⟩, ⟨mrow_at _ _ _, a2.frame (fa 6 (by omega)) (hhi _ (by omega)), S2.frame (mrow_ne (by omega)) (mrow_ne (by omega)), a4.frame (fa 9 (by omega)) (hhi _ (by omega)), by rw [fa 16 (by omega)]; exact a5, a6.frame (fa 19 (by omega)) (hhi _ (by omega))⟩, ⟨hG.1, hG.2.1, fun i hi => ?_, hG.2.2.2⟩⟩⟩
  · rw [mrow_ne (by omega), v7]
    by_cases hx : 0 ≤ y1 ∧ y1 < 2
    · rw [if_pos hx, if_pos hx]
    · rw [if_neg hx, if_neg hx]
  · by_cases hx : 0 ≤ y1 ∧ y1 < 2
    · rw [if_pos hx] at h; cases h
    · rw [if_neg hx] at h; exact (Sum.inl.inj h).symm
  · by_cases hc : 0 ≤ y1 ∧ y1 < 2 ∧ i = y1.toNat
    · simp only [if_pos hc]; exact Or.inr trivial
    · simp only [if_neg hc]; exact hG.2.2.1 i hi
theorem k_append {y1 y2 y3 y4 y5 : Int} (h : REL M K) : ∃ res M1 M2, fX8_append gsh 1 y1 y2 y3 y4 y5 M = some (res, M1) ∧ fX9_append gsh 855 y1 y2 y3 y4 y5 M1 = some (qWert res, M2) ∧ M2 855 7 = qThr 1 res ∧ (∀ e, res = .inl e → e = 1) ∧ REL M2 K := by
  obtain ⟨r, n, kept, fl, sv, x, xn, ep, L, hC, hM, hG⟩ := h
  obtain ⟨c1, c2, c3, c4, c5, c6, c7⟩ := hC
  obtain ⟨a1, a2, a3, a4, a5, a6⟩ := hM
  obtain ⟨M1, e1, B1, X1, F1⟩ := a_append (g := gsh) (a := 1) (v1 := y1) (v2 := y2) (v3 := y3) (v4 := y4) (v5 := y5) (s := (x, xn)) hG.2.2.2.1 c5
  have hB : BM M1 855 x xn := a4.frame (by rw [F1.1 855 (by omega) (by omega)]) (F1.1 _ (by omega) (by omega))
  obtain ⟨N, e2, B2, v7, F2⟩ := b_append (g := gsh) (a := 855) (v1 := y1) (v2 := y2) (v3 := y3) (v4 := y4) (v5 := y5) (s := (x, xn)) hG.2.2.2.1 hB
  have hlo : ∀ y : Nat, y < 855 → N y = M1 y := fun y q => F2.1 y (by omega) (by omega)
  have hlo2 : ∀ y : Nat, y < 786 ∨ (787 < y ∧ y < 855) → N y = M y := fun y q => by rw [hlo y (by omega), F1.1 y (by omega) (by omega)]
  have hhi : ∀ y : Nat, 855 < y → ¬ y = 862 → N y = M y := fun y q1 q2 => by rw [F2.1 y (by omega) (by omega), F1.1 y (by omega) (by omega)]
  have fa : ∀ j : Nat, ¬ j = 7 → ¬ j = 9 → N 855 j = M 855 j := fun j q1 q2 => by rw [F2.2 j q1 q2, F1.1 855 (by omega) (by omega)]
  refine ⟨_, M1, N, e1, e2, v7, fun e h => ?_, ⟨r, n, kept, fl, sv, _, _, ep, L, ⟨c1, c2.frame c1 (fun y q1 q2 => hlo2 y (by omega)), c3.frame (fun y q1 q2 => hlo2 y (by omega)) (Int.le_refl K), c4.frame (fun y q1 q2 => hlo2 y (by omega)) (Int.le_refl K), B1.frame (hlo _ (by omega)) (hlo _ (by omega)), ?_, c7.frame (hlo2 _ (by omega)) (hlo2 _ (by omega))⟩, ⟨by rw [hhi _ (by omega) (by omega)]; exact a1, a2.frame (fa 6 (by omega) (by omega)) (hhi _ (by omega) (by omega)), a3.frame (hhi _ (by omega) (by omega)) (hhi _ (by omega) (by omega)), B2, by rw [fa 16 (by omega) (by omega)]; exact a5, a6.frame (fa 19 (by omega) (by omega)) (hhi _ (by omega) (by omega))⟩, ⟨hG.1, hG.2.1, hG.2.2.1, X1, hG.2.2.2.2⟩⟩⟩
  · unfold sAppend at h
    by_cases hx : (x, xn).2 + qNz5 y1 y2 y3 y4 y5 ≤ 600
    · rw [if_pos hx] at h; cases h
    · rw [if_neg hx] at h; exact (Sum.inl.inj h).symm
  · rw [hlo _ (by omega), F1.2 4 (by omega)]; exact c6
theorem k_load (h : REL M K) : ∃ v M1 M2, fX8_load gsh 1 M = some (v, M1) ∧ fX9_load gsh 855 M1 = some (v, M2) ∧ REL M2 K := by
  obtain ⟨r, n, kept, fl, sv, x, xn, ep, L, hC, hM, hG⟩ := h
  obtain ⟨c1, c2, c3, c4, c5, c6, c7⟩ := hC
  obtain ⟨a1, a2, a3, a4, a5, a6⟩ := hM
  have hn := hG.2.1
  have hK0 := hG.1.1
  -- once for the class's memory, once more for the reference behind it
  obtain ⟨v0, M1, M0, r0, g0, ep0, e1, -, -, -, -, -, -, -, -, -, -, -, F1, -⟩ := t_load (g := gsh) (c := 1) (a := 855) gl1 gl2 gl4 hG.2.2.2.1 c5 a4 hK0 c1 c2 c3 hn a1 a2
  have hB : BM M1 855 x xn := a4.frame (by rw [F1 855 (by omega)]) (F1 _ (by omega))
  have hKM : KM M1 855 n kept := a2.frame (by rw [F1 855 (by omega)]) (F1 _ (by omega))
  have hr : M1 (855 + 1) = r := by rw [F1 _ (by omega)]; exact a1
  obtain ⟨v, M1', N, r', chg, ep', e1', e2, q1, q2, q3, q4, q5, q6, q7, q8, q9, q10, -, F2⟩ := t_load (g := gsh) (c := 1) (a := 855) gl1 gl2 gl4 hG.2.2.2.1 c5 hB hK0 c1 c2 c3 hn hr hKM
  have hE : some (v0, M1) = some (v, M1') := e1.symm.trans e1'
  cases hE
  have hlo : ∀ y : Nat, y < 855 → N y = M1 y := fun y q => F2.1 y (by omega) (by omega) (by omega) (by omega)
  have hlo2 : ∀ y : Nat, (654 ≤ y ∧ y < 786) ∨ (853 ≤ y ∧ y < 855) → N y = M y := fun y q => by rw [hlo y (by omega), F1 y (by omega)]
  have hhi : ∀ y : Nat, 859 < y → N y = M y := fun y q1 => by rw [F2.1 y (by omega) (by omega) (by omega) (by omega), F1 y (by omega)]
  refine ⟨v0, M1, N, e1, e2, ⟨r', qN chg n, qK chg r kept, fl, sv, x, 0, ep', L, ⟨q2, q3.frame q2 (fun y w1 w2 => hlo y (by omega)), q4.frame (fun y w1 w2 => hlo y (by omega)) (Int.le_refl K), c4.frame (fun y w1 w2 => hlo2 y (by omega)) (Int.le_refl K), ⟨by rw [hlo _ (by omega)]; exact q8, fun k w1 w2 => by omega⟩, by rw [hlo _ (by omega)]; exact q6, c7.frame (hlo2 _ (by omega)) (hlo2 _ (by omega))⟩, ⟨q1, q5, a3.frame (hhi _ (by omega)) (hhi _ (by omega)), ⟨q9, fun k w1 w2 => by omega⟩, q7, a6.frame (by rw [F2.2 19 (by omega), F1 855 (by omega)]) (hhi _ (by omega))⟩, ⟨hG.1, qN_rng hn, hG.2.2.1, ⟨⟨by omega, by omega⟩, fun k w1 w2 => by omega⟩, hG.2.2.2.2⟩⟩⟩
theorem k_errorPosition (h : REL M K) : ∃ v M2, fX8_errorPosition gsh 1 M = some v ∧ fX9_errorPosition gsh 855 M = some (v, M2) ∧ REL M2 K := by
  obtain ⟨r, n, kept, fl, sv, x, xn, ep, L, hC, hM, hG⟩ := h
  have R := REL.ask (v := 0) hC hM hG
  refine ⟨ep, _, ?_, ?_, R⟩
  · unfold fX8_errorPosition
    show some (M 786 4) = _
    rw [hC.2.2.2.2.2.1]
  · unfold fX9_errorPosition
    rw [gst_eq, gup_miss (by omega), hM.2.2.2.2.1]
    congr 2
    have : gup M 855 7 0 (855 + 1) = r := by rw [gup_row (by omega)]; exact hM.1
    rw [← this]
    exact (mrow_self _ _).symm
theorem k_writeStacks (h : REL M K) : ∃ v M1 M2, fX8_writeStacks gsh 1 M = some (v, M1) ∧ fX9_writeStacks gsh 855 M1 = some (v, M2) ∧ REL M2 K := by
  obtain ⟨r, n, kept, fl, sv, x, xn, ep, L, hC, hM, hG⟩ := h
  obtain ⟨c1, c2, c3, c4, c5, c6, c7⟩ := hC
  obtain ⟨a1, a2, a3, a4, a5, a6⟩ := hM
  have h2 := c1.2.2.1
  have hlen := qTextL_len c1 (r 2).toNat 0 (by omega) (by omega)
  obtain ⟨M1, e1, W1, F1⟩ := a_write (g := gsh) (a := 1) c1 c2
  obtain ⟨N, e2, W2, v7, F2, F3⟩ := b_write (g := gsh) (a := 855) (M := M1) c1 (by rw [F1 _ (by omega) (by omega)]; exact a1)
  have hlo : ∀ y : Nat, y < 855 → N y = M1 y := fun y q => F2 y (by omega) (by omega)
  have hlo2 : ∀ y : Nat, y < 853 → N y = M y := fun y q => by rw [hlo y (by omega), F1 y (by omega) (by omega)]
  have hhi : ∀ y : Nat, 855 < y → ¬ y = 863 → N y = M y := fun y q1 q2 => by rw [F2 y (by omega) (by omega), F1 y (by omega) (by omega)]
  have fa : ∀ j : Nat, ¬ j = 7 → ¬ j = 19 → N 855 j = M 855 j := fun j q1 q2 => by rw [F3 j q1 q2, F1 855 (by omega) (by omega)]
  exact ⟨_, M1, N, e1, e2, ⟨r, n, kept, fl, sv, x, xn, ep, sWrite r, ⟨c1, c2.frame c1 (fun y q1 q2 => hlo2 y (by omega)), c3.frame (fun y q1 q2 => hlo2 y (by omega)) (Int.le_refl K), c4.frame (fun y q1 q2 => hlo2 y (by omega)) (Int.le_refl K), c5.frame (hlo2 _ (by omega)) (hlo2 _ (by omega)), by rw [hlo2 _ (by omega)]; exact c6, W1.frame (hlo _ (by omega)) (hlo _ (by omega))⟩, ⟨by rw [hhi _ (by omega) (by omega)]; exact a1, a2.frame (fa 6 (by omega) (by omega)) (hhi _ (by omega) (by omega)), a3.frame (hhi _ (by omega) (by omega)) (hhi _ (by omega) (by omega)), a4.frame (fa 9 (by omega) (by omega)) (hhi _ (by omega) (by omega)), by rw [fa 16 (by omega) (by omega)]; exact a5, W2⟩, ⟨hG.1, hG.2.1, hG.2.2.1, hG.2.2.2.1, by unfold sWrite; omega⟩⟩⟩
theorem k_writtenByte {y1 : Int} (h : REL M K) : ∃ res M2, fX8_writtenByte gsh 1 y1 M = some res ∧ fX9_writtenByte gsh 855 y1 M = some (qWert res, M2) ∧ M2 855 7 = qThr 3 res ∧ (∀ e, res = .inl e → e = 3) ∧ REL M2 K := by
  obtain ⟨r, n, kept, fl, sv, x, xn, ep, L, hC, hM, hG⟩ := h
  have e2 := b_byte (g := gsh) (x := y1) hM.2.2.2.2.2 hG.2.2.2.2
  have R := REL.ask (v := qThr 3 (sByte L y1)) hC hM hG
  have er : mrow (gup M 855 7 (qThr 3 (sByte L y1))) (855 + 1) r = gup M 855 7 (qThr 3 (sByte L y1)) := by
    have : gup M 855 7 (qThr 3 (sByte L y1)) (855 + 1) = r := by rw [gup_row (by omega)]; exact hM.1
    rw [← this]; exact mrow_self _ _
  rw [er] at R
  refine ⟨sByte L y1, _, a_byte hC.2.2.2.2.2.2 hG.2.2.2.2, e2, gup_hit rfl rfl, fun e h => ?_, R⟩
  unfold sByte at h
  by_cases hx : 0 ≤ y1 ∧ y1 < (L.length : Int)
  · rw [if_pos hx] at h; cases h
  · rw [if_neg hx] at h; exact (Sum.inl.inj h).symm
/-- what is thrown last is told -/
theorem k_thrown : fX9_thrown gsh 855 M = some (M 855 7) := rfl
end Rel2
