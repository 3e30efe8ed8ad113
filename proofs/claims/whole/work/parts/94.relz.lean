/-! PURE: the calls once more, with the law's own cell (object 864) written between the two systems -/
def gOut (M1 N : gMem) : Prop := ∀ y : Nat, ¬ y = 864 → N y = M1 y
def mOut (M N : gMem) : gMem := fun y => if y = 864 then N 864 else M y
theorem gOut.rf (M : gMem) : gOut M M := fun _ _ => rfl
theorem gOut.up (M : gMem) (v : Int) : gOut M (gup M 864 0 v) := fun _ h => gup_row h
section RelZ
variable {M M' M1 M2 N0 : gMem} {K K' n xn ep : Int} {r r' x : gRow} {kept : Nat → gRow} {fl : Nat → Int} {sv : Nat → gRow} {L : List Int}
theorem mOut_ne {y : Nat} (h : ¬ y = 864) : mOut M N0 y = M y := if_neg h
theorem out_f {y : Nat} (hN : gOut M1 N0) (h : M1 y = M y) : N0 y = mOut M N0 y := by
  unfold mOut
  by_cases hy : y = 864
  · rw [if_pos hy, hy]
  · rw [if_neg hy, hN y hy, h]
theorem CR.out (h : CR M K r n kept fl sv x xn ep L) : CR (mOut M N0) K r n kept fl sv x xn ep L := h.hi (fun y q => mOut_ne (by omega))
theorem MR.out (h : MR M r n kept fl sv x xn ep L) : MR (mOut M N0) r n kept fl sv x xn ep L := h.fr (mOut_ne (by omega)) (mOut_ne (by omega)) (mOut_ne (by omega)) (mOut_ne (by omega)) (mOut_ne (by omega)) (mOut_ne (by omega)) (fun j q => by rw [mOut_ne (by omega)])
theorem MR.to (h : MR M r n kept fl sv x xn ep L) (hN : gOut M N0) : MR N0 r n kept fl sv x xn ep L := h.fr (hN _ (by omega)) (hN _ (by omega)) (hN _ (by omega)) (hN _ (by omega)) (hN _ (by omega)) (hN _ (by omega)) (fun j q => by rw [hN _ (by omega)])
theorem CR.to (h : CR M K r n kept fl sv x xn ep L) (hN : gOut M N0) : CR N0 K r n kept fl sv x xn ep L := h.hi (fun y q => hN y (by omega))
theorem z_count {y1 : Int} (h : REL M K) : ∃ res, fX8_count gsh 1 y1 M = some res ∧ (∀ e, res = .inl e → e = 2) ∧ ∀ N0, gOut M N0 → ∃ M2, fX9_count gsh 855 y1 N0 = some (qWert res, M2) ∧ M2 855 7 = qThr 2 res ∧ M2 864 = N0 864 ∧ REL M2 K := by
  obtain ⟨r, n, kept, fl, sv, x, xn, ep, L, hC, hM, hG⟩ := h
  have hO := hC.1
  have hK := hG.1
  refine ⟨sCount r y1, a_count (a := 1) hO (by omega) hC.2.1, fun e h => s_count h, fun N0 hN => ?_⟩
  have hC := hC.to hN
  have hM := hM.to hN
  have e2 := b_count (g := gsh) (a := 855) (M := N0) (x := y1) hO (by omega)
  rw [row_in hM] at e2
  exact ⟨_, e2, mrow_7, by rw [mrow_ne (by omega), gup_row (by omega)], REL.ask hC hM hG⟩
theorem z_process {y1 y2 : Int} (h : REL M K) : ∃ res, fX8_process gsh 1 y1 y2 M = some res ∧ (∀ e, res = .inl e → e = 3 ∨ e = 2) ∧ ∀ N0, gOut M N0 → ∃ M2, fX9_process gsh 855 y1 y2 N0 = some (qWert res, M2) ∧ M2 855 7 = qThr 3 res ∧ M2 864 = N0 864 ∧ REL M2 K := by
  obtain ⟨r, n, kept, fl, sv, x, xn, ep, L, hC, hM, hG⟩ := h
  have hO := hC.1
  have hK := hG.1
  refine ⟨sProcess r y1 y2, a_process (a := 1) hO hC.2.1, fun e h => s_process h, fun N0 hN => ?_⟩
  have hC := hC.to hN
  have hM := hM.to hN
  have e2 := b_process (g := gsh) (a := 855) (M := N0) (p := y1) (x := y2) hO
  rw [row_in hM] at e2
  exact ⟨_, e2, mrow_7, by rw [mrow_ne (by omega), gup_row (by omega)], REL.ask hC hM hG⟩
theorem z_stack {y1 y2 : Int} (h : REL M K) : ∃ res, fX8_stack gsh 1 y1 y2 M = some res ∧ (∀ e, res = .inl e → e = 3 ∨ e = 2) ∧ ∀ N0, gOut M N0 → ∃ M2, fX9_stack gsh 855 y1 y2 N0 = some (qWert res, M2) ∧ M2 855 7 = qThr 3 res ∧ M2 864 = N0 864 ∧ REL M2 K := by
  obtain ⟨r, n, kept, fl, sv, x, xn, ep, L, hC, hM, hG⟩ := h
  have hO := hC.1
  have hK := hG.1
  refine ⟨sStack r y1 y2, a_stack (a := 1) hO hC.2.1, fun e h => s_stack h, fun N0 hN => ?_⟩
  have hC := hC.to hN
  have hM := hM.to hN
  have e2 := b_stack (g := gsh) (a := 855) (M := N0) (p := y1) (x := y2) hO
  rw [row_in hM] at e2
  exact ⟨_, e2, mrow_7, by rw [mrow_ne (by omega), gup_row (by omega)], REL.ask hC hM hG⟩
theorem z_number {y1 y2 : Int} (h : REL M K) : ∃ res, fX8_number gsh 1 y1 y2 M = some res ∧ (∀ e, res = .inl e → e = 3) ∧ ∀ N0, gOut M N0 → ∃ M2, fX9_number gsh 855 y1 y2 N0 = some (qWert res, M2) ∧ M2 855 7 = qThr 3 res ∧ M2 864 = N0 864 ∧ REL M2 K := by
  obtain ⟨r, n, kept, fl, sv, x, xn, ep, L, hC, hM, hG⟩ := h
  have hO := hC.1
  have hK := hG.1
  refine ⟨sNumber r y1 y2, a_number (a := 1) hO hC.2.1, fun e h => s_number h, fun N0 hN => ?_⟩
  have hC := hC.to hN
  have hM := hM.to hN
  have e2 := b_number (g := gsh) (a := 855) (M := N0) (p := y1) (x := y2) hO
  rw [row_in hM] at e2
  exact ⟨_, e2, mrow_7, by rw [mrow_ne (by omega), gup_row (by omega)], REL.ask hC hM hG⟩
theorem z_slot {y1 : Int} (h : REL M K) : ∃ res, fX8_slot gsh 1 y1 M = some res ∧ (∀ e, res = .inl e → e = 3) ∧ ∀ N0, gOut M N0 → ∃ M2, fX9_slot gsh 855 y1 N0 = some (qWert res, M2) ∧ M2 855 7 = qThr 3 res ∧ M2 864 = N0 864 ∧ REL M2 K := by
  obtain ⟨r, n, kept, fl, sv, x, xn, ep, L, hC, hM, hG⟩ := h
  have hO := hC.1
  have hK := hG.1
  refine ⟨sSlot r y1, a_slot (a := 1) hO hC.2.1, fun e h => s_slot h, fun N0 hN => ?_⟩
  have hC := hC.to hN
  have hM := hM.to hN
  have e2 := b_slot (g := gsh) (a := 855) (M := N0) (k := y1) hO
  rw [row_in hM] at e2
  exact ⟨_, e2, mrow_7, by rw [mrow_ne (by omega), gup_row (by omega)], REL.ask hC hM hG⟩
theorem z_command {y1 y2 y3 : Int} (h : REL M K) : ∃ res, fX8_command gsh 1 y1 y2 y3 M = some res ∧ (∀ e, res = .inl e → e = 3 ∨ e = 2) ∧ ∀ N0, gOut M N0 → ∃ M2, fX9_command gsh 855 y1 y2 y3 N0 = some (qWert res, M2) ∧ M2 855 7 = qThr 3 res ∧ M2 864 = N0 864 ∧ REL M2 K := by
  obtain ⟨r, n, kept, fl, sv, x, xn, ep, L, hC, hM, hG⟩ := h
  have hO := hC.1
  have hK := hG.1
  refine ⟨sCommand r y1 y2 y3, a_command (a := 1) hO hC.2.1, fun e h => s_command h, fun N0 hN => ?_⟩
  have hC := hC.to hN
  have hM := hM.to hN
  have e2 := b_command (g := gsh) (a := 855) (M := N0) (p := y1) (k := y2) (x := y3) hO
  rw [row_in hM] at e2
  exact ⟨_, e2, mrow_7, by rw [mrow_ne (by omega), gup_row (by omega)], REL.ask hC hM hG⟩
theorem z_said {y1 y2 : Int} (h : REL M K) : ∃ res, fX8_said gsh 1 y1 y2 M = some res ∧ (∀ e, res = .inl e → e = 3) ∧ ∀ N0, gOut M N0 → ∃ M2, fX9_said gsh 855 y1 y2 N0 = some (qWert res, M2) ∧ M2 855 7 = qThr 3 res ∧ M2 864 = N0 864 ∧ REL M2 K := by
  obtain ⟨r, n, kept, fl, sv, x, xn, ep, L, hC, hM, hG⟩ := h
  have hO := hC.1
  have hK := hG.1
  refine ⟨sSaid r y1 y2, a_said (a := 1) hO (by omega) hC.2.1, fun e h => s_said h, fun N0 hN => ?_⟩
  have hC := hC.to hN
  have hM := hM.to hN
  have e2 := b_said (g := gsh) (a := 855) (M := N0) (p := y1) (k := y2) hO (by omega)
  rw [row_in hM] at e2
  exact ⟨_, e2, mrow_7, by rw [mrow_ne (by omega), gup_row (by omega)], REL.ask hC hM hG⟩
theorem z_trace {y1 y2 : Int} (h : REL M K) : ∃ res, fX8_trace gsh 1 y1 y2 M = some res ∧ (∀ e, res = .inl e → e = 3 ∨ e = 2) ∧ ∀ N0, gOut M N0 → ∃ M2, fX9_trace gsh 855 y1 y2 N0 = some (qWert res, M2) ∧ M2 855 7 = qThr 3 res ∧ M2 864 = N0 864 ∧ REL M2 K := by
  obtain ⟨r, n, kept, fl, sv, x, xn, ep, L, hC, hM, hG⟩ := h
  have hO := hC.1
  have hK := hG.1
  refine ⟨sTrace r y1 y2, a_trace (a := 1) hO (by omega) hC.2.1, fun e h => s_trace h, fun N0 hN => ?_⟩
  have hC := hC.to hN
  have hM := hM.to hN
  have e2 := b_trace (g := gsh) (a := 855) (M := N0) (k := y1) (x := y2) hO
  rw [row_in hM] at e2
  exact ⟨_, e2, mrow_7, by rw [mrow_ne (by omega), gup_row (by omega)], REL.ask hC hM hG⟩
theorem z_whyStuck {y1 : Int} (h : REL M K) : ∃ res, fX8_whyStuck gsh 1 y1 M = some res ∧ (∀ e, res = .inl e → e = 3) ∧ ∀ N0, gOut M N0 → ∃ M2, fX9_whyStuck gsh 855 y1 N0 = some (qWert res, M2) ∧ M2 855 7 = qThr 3 res ∧ M2 864 = N0 864 ∧ REL M2 K := by
  obtain ⟨r, n, kept, fl, sv, x, xn, ep, L, hC, hM, hG⟩ := h
  have hO := hC.1
  have hK := hG.1
  refine ⟨sWhy r y1, a_why (a := 1) hO hC.2.1, fun e h => s_whyStuck h, fun N0 hN => ?_⟩
  have hC := hC.to hN
  have hM := hM.to hN
  have e2 := b_why (g := gsh) (a := 855) (M := N0) (p := y1) hO
  rw [row_in hM] at e2
  exact ⟨_, e2, mrow_7, by rw [mrow_ne (by omega), gup_row (by omega)], REL.ask hC hM hG⟩
theorem z_helpers {y1 : Int} (h : REL M K) : ∃ res, fX8_helpers gsh 1 y1 M = some res ∧ (∀ e, res = .inl e → e = 3) ∧ ∀ N0, gOut M N0 → ∃ M2, fX9_helpers gsh 855 y1 N0 = some (qWert res, M2) ∧ M2 855 7 = qThr 3 res ∧ M2 864 = N0 864 ∧ REL M2 K := by
  obtain ⟨r, n, kept, fl, sv, x, xn, ep, L, hC, hM, hG⟩ := h
  have hO := hC.1
  have hK := hG.1
  refine ⟨sHelpers r y1, a_help (a := 1) hO hC.2.1, fun e h => s_helpers h, fun N0 hN => ?_⟩
  have hC := hC.to hN
  have hM := hM.to hN
  have e2 := b_help (g := gsh) (a := 855) (M := N0) (p := y1) hO
  rw [row_in hM] at e2
  exact ⟨_, e2, mrow_7, by rw [mrow_ne (by omega), gup_row (by omega)], REL.ask hC hM hG⟩
theorem z_wouldSay {y1 y2 : Int} (h : REL M K) : ∃ res M1, fX8_wouldSay gsh 1 y1 y2 M = some (res, M1) ∧ (∀ e, res = .inl e → e = 3 ∨ e = 2) ∧ ∀ N0, gOut M1 N0 → ∃ M2, fX9_wouldSay gsh 855 y1 y2 N0 = some (qWert res, M2) ∧ M2 855 7 = qThr 3 res ∧ M2 864 = N0 864 ∧ REL M2 K := by
  obtain ⟨r, n, kept, fl, sv, x, xn, ep, L, hC, hM, hG⟩ := h
  have hO := hC.1
  have hK := hG.1
  obtain ⟨M1, e1, F1⟩ := a_wsay (g := gsh) (a := 1) (p := y1) (n := y2) hO (by omega) hC.2.1
  refine ⟨sWSay r y1 y2, M1, e1, fun e h => s_wouldSay h, fun N0 hN => ?_⟩
  have F1 : gFc 1 (mOut M N0) N0 := fun y q => out_f hN (F1 y q)
  have hC := hC.out (N0 := N0)
  have hM := hM.out (N0 := N0)
  obtain ⟨N, e2, v7, F2⟩ := b_wsay (g := gsh) (a := 855) (M := N0) (p := y1) (n := y2) gl1 gl3 hO (by omega)
  rw [row_in1 hM (F1 856 (by omega))] at e2
  exact ⟨_, e2, by rw [mrow_ne (by omega)]; exact v7, by rw [mrow_ne (by omega), F2.1 _ (by omega) (by omega) (by omega)], REL.try hC hM hG F1 F2⟩
theorem z_wouldFail {y1 : Int} (h : REL M K) : ∃ res M1, fX8_wouldFail gsh 1 y1 M = some (res, M1) ∧ (∀ e, res = .inl e → e = 3) ∧ ∀ N0, gOut M1 N0 → ∃ M2, fX9_wouldFail gsh 855 y1 N0 = some (qWert res, M2) ∧ M2 855 7 = qThr 3 res ∧ M2 864 = N0 864 ∧ REL M2 K := by
  obtain ⟨r, n, kept, fl, sv, x, xn, ep, L, hC, hM, hG⟩ := h
  have hO := hC.1
  have hK := hG.1
  obtain ⟨M1, e1, F1⟩ := a_wfail (g := gsh) (a := 1) (p := y1) hO (by omega) hC.2.1
  refine ⟨sWFail r y1, M1, e1, fun e h => s_wouldFail h, fun N0 hN => ?_⟩
  have F1 : gFc 1 (mOut M N0) N0 := fun y q => out_f hN (F1 y q)
  have hC := hC.out (N0 := N0)
  have hM := hM.out (N0 := N0)
  obtain ⟨N, e2, v7, F2⟩ := b_wfail (g := gsh) (a := 855) (M := N0) (p := y1) gl1 gl3 hO (by omega)
  rw [row_in1 hM (F1 856 (by omega))] at e2
  exact ⟨_, e2, by rw [mrow_ne (by omega)]; exact v7, by rw [mrow_ne (by omega), F2.1 _ (by omega) (by omega) (by omega)], REL.try hC hM hG F1 F2⟩
theorem z_bestSlot {y1 : Int} (h : REL M K) : ∃ res M1, fX8_bestSlot gsh 1 y1 M = some (res, M1) ∧ (∀ e, res = .inl e → e = 3) ∧ ∀ N0, gOut M1 N0 → ∃ M2, fX9_bestSlot gsh 855 y1 N0 = some (qWert res, M2) ∧ M2 855 7 = qThr 3 res ∧ M2 864 = N0 864 ∧ REL M2 K := by
  obtain ⟨r, n, kept, fl, sv, x, xn, ep, L, hC, hM, hG⟩ := h
  have hO := hC.1
  have hK := hG.1
  obtain ⟨M1, e1, F1⟩ := a_best (g := gsh) (a := 1) (p := y1) hO (by omega) hC.2.1
  refine ⟨sBest r y1, M1, e1, fun e h => s_bestSlot h, fun N0 hN => ?_⟩
  have F1 : gFc 1 (mOut M N0) N0 := fun y q => out_f hN (F1 y q)
  have hC := hC.out (N0 := N0)
  have hM := hM.out (N0 := N0)
  obtain ⟨N, e2, v7, F2⟩ := b_best (g := gsh) (a := 855) (M := N0) (p := y1) gl1 gl3 hO (by omega)
  rw [row_in1 hM (F1 856 (by omega))] at e2
  exact ⟨_, e2, by rw [mrow_ne (by omega)]; exact v7, by rw [mrow_ne (by omega), F2.1 _ (by omega) (by omega) (by omega)], REL.try hC hM hG F1 F2⟩
theorem z_run {y1 : Int} (h : REL M K) (hK2 : K + 12000 ≤ 70000000) : ∃ res M1, fX8_run gsh 1 y1 M = some (res, M1) ∧ (∀ e, res = .inl e → e = 2) ∧ ∀ N0, gOut M1 N0 → ∃ M2, fX9_run gsh 855 y1 N0 = some (qWert res, M2) ∧ M2 855 7 = qThr 2 res ∧ M2 864 = N0 864 ∧ REL M2 (K + 12000) := by
  obtain ⟨r, n, kept, fl, sv, x, xn, ep, L, hC, hM, hG⟩ := h
  have hO := hC.1
  have hK := hG.1
  obtain ⟨M1, e1, D1, O1, K1, F1⟩ := a_run (g := gsh) (a := 1) (x := y1) hO (by omega) hC.2.1 hC.2.2.1 hG.2.1
  refine ⟨(sRun r y1).1, M1, e1, fun e h => s_run h, fun N0 hN => ?_⟩
  have F1 : gFd 1 (mOut M N0) N0 := fun y q => out_f hN (F1 y q)
  have D1 := D1.frame O1 (fun y q1 q2 => hN y (by omega))
  have K1 := K1.frame (fun y q1 q2 => hN y (by omega)) (Int.le_refl _)
  have hC := hC.out (N0 := N0)
  have hM := hM.out (N0 := N0)
  have hKM : KM N0 855 n kept := hM.2.1.frame (by rw [F1 855 (by omega)]) (F1 _ (by omega))
  obtain ⟨N, e2, K2, v7, F2⟩ := b_run (g := gsh) (a := 855) (M := N0) (r := r) (x := y1) gl1 gl4 hO (by omega) hKM
  rw [row_in1 hM (F1 856 (by omega))] at e2
  exact ⟨_, e2, by rw [mrow_ne (by omega)]; exact v7, by rw [mrow_ne (by omega), F2.1 _ (by omega) (by omega) (by omega)], REL.chg hC hM hG (by omega) hK2 (qN_rng hG.2.1) O1 D1 K1 F1 K2 F2⟩
theorem z_allow {y1 y2 y3 : Int} (h : REL M K) (hK2 : K + 12000 ≤ 70000000) : ∃ res M1, fX8_allow gsh 1 y1 y2 y3 M = some (res, M1) ∧ (∀ e, res = .inl e → e = 3) ∧ ∀ N0, gOut M1 N0 → ∃ M2, fX9_allow gsh 855 y1 y2 y3 N0 = some (qWert res, M2) ∧ M2 855 7 = qThr 3 res ∧ M2 864 = N0 864 ∧ REL M2 (K + 12000) := by
  obtain ⟨r, n, kept, fl, sv, x, xn, ep, L, hC, hM, hG⟩ := h
  have hO := hC.1
  have hK := hG.1
  obtain ⟨M1, e1, D1, O1, K1, F1⟩ := a_allow (g := gsh) (a := 1) (p := y1) (k := y2) (x := y3) hO hC.2.1 hC.2.2.1 hG.2.1
  refine ⟨(sAllow r y1 y2 y3).1, M1, e1, fun e h => s_allow h, fun N0 hN => ?_⟩
  have F1 : gFd 1 (mOut M N0) N0 := fun y q => out_f hN (F1 y q)
  have D1 := D1.frame O1 (fun y q1 q2 => hN y (by omega))
  have K1 := K1.frame (fun y q1 q2 => hN y (by omega)) (Int.le_refl _)
  have hC := hC.out (N0 := N0)
  have hM := hM.out (N0 := N0)
  have hKM : KM N0 855 n kept := hM.2.1.frame (by rw [F1 855 (by omega)]) (F1 _ (by omega))
  obtain ⟨N, e2, K2, v7, F2⟩ := b_allow (g := gsh) (a := 855) (M := N0) (r := r) (p := y1) (k := y2) (x := y3) gl1 gl4 hO hKM
  rw [row_in1 hM (F1 856 (by omega))] at e2
  exact ⟨_, e2, by rw [mrow_ne (by omega)]; exact v7, by rw [mrow_ne (by omega), F2.1 _ (by omega) (by omega) (by omega)], REL.chg hC hM hG (by omega) hK2 (qN_rng hG.2.1) (O1.mono (by omega)) (D1.mono (by omega)) (K1.frame (fun _ _ _ => rfl) (by omega)) F1 K2 F2⟩
theorem z_setTurn {y1 y2 : Int} (h : REL M K) (hK2 : K + 12000 ≤ 70000000) : ∃ res M1, fX8_setTurn gsh 1 y1 y2 M = some (res, M1) ∧ (∀ e, res = .inl e → e = 3 ∨ e = 2) ∧ ∀ N0, gOut M1 N0 → ∃ M2, fX9_setTurn gsh 855 y1 y2 N0 = some (qWert res, M2) ∧ M2 855 7 = qThr 3 res ∧ M2 864 = N0 864 ∧ REL M2 (K + 12000) := by
  obtain ⟨r, n, kept, fl, sv, x, xn, ep, L, hC, hM, hG⟩ := h
  have hO := hC.1
  have hK := hG.1
  obtain ⟨M1, e1, D1, O1, K1, F1⟩ := a_setTurn (g := gsh) (a := 1) (p := y1) (x := y2) hO hC.2.1 hC.2.2.1 hG.2.1
  refine ⟨(sSetTurn r y1 y2).1, M1, e1, fun e h => s_setTurn h, fun N0 hN => ?_⟩
  have F1 : gFd 1 (mOut M N0) N0 := fun y q => out_f hN (F1 y q)
  have D1 := D1.frame O1 (fun y q1 q2 => hN y (by omega))
  have K1 := K1.frame (fun y q1 q2 => hN y (by omega)) (Int.le_refl _)
  have hC := hC.out (N0 := N0)
  have hM := hM.out (N0 := N0)
  have hKM : KM N0 855 n kept := hM.2.1.frame (by rw [F1 855 (by omega)]) (F1 _ (by omega))
  obtain ⟨N, e2, K2, v7, F2⟩ := b_setTurn (g := gsh) (a := 855) (M := N0) (r := r) (p := y1) (x := y2) gl1 gl4 hO hKM
  rw [row_in1 hM (F1 856 (by omega))] at e2
  exact ⟨_, e2, by rw [mrow_ne (by omega)]; exact v7, by rw [mrow_ne (by omega), F2.1 _ (by omega) (by omega) (by omega)], REL.chg hC hM hG (by omega) hK2 (qN_rng hG.2.1) (O1.mono (by omega)) (D1.mono (by omega)) (K1.frame (fun _ _ _ => rfl) (by omega)) F1 K2 F2⟩
theorem z_put {y1 y2 : Int} (h : REL M K) (hK2 : K + 12000 ≤ 70000000) : ∃ res M1, fX8_put gsh 1 y1 y2 M = some (res, M1) ∧ (∀ e, res = .inl e → e = 3 ∨ e = 2) ∧ ∀ N0, gOut M1 N0 → ∃ M2, fX9_put gsh 855 y1 y2 N0 = some (qWert res, M2) ∧ M2 855 7 = qThr 3 res ∧ M2 864 = N0 864 ∧ REL M2 (K + 12000) := by
  obtain ⟨r, n, kept, fl, sv, x, xn, ep, L, hC, hM, hG⟩ := h
  have hO := hC.1
  have hK := hG.1
  obtain ⟨M1, e1, D1, O1, K1, F1⟩ := a_put (g := gsh) (a := 1) (s := y1) (x := y2) hO hC.2.1 hC.2.2.1 hG.2.1
  refine ⟨(sPut r y1 y2).1, M1, e1, fun e h => s_put h, fun N0 hN => ?_⟩
  have F1 : gFd 1 (mOut M N0) N0 := fun y q => out_f hN (F1 y q)
  have D1 := D1.frame O1 (fun y q1 q2 => hN y (by omega))
  have K1 := K1.frame (fun y q1 q2 => hN y (by omega)) (Int.le_refl _)
  have hC := hC.out (N0 := N0)
  have hM := hM.out (N0 := N0)
  have hKM : KM N0 855 n kept := hM.2.1.frame (by rw [F1 855 (by omega)]) (F1 _ (by omega))
  obtain ⟨N, e2, K2, v7, F2⟩ := b_put (g := gsh) (a := 855) (M := N0) (r := r) (s := y1) (x := y2) gl1 gl4 hO hKM
  rw [row_in1 hM (F1 856 (by omega))] at e2
  exact ⟨_, e2, by rw [mrow_ne (by omega)]; exact v7, by rw [mrow_ne (by omega), F2.1 _ (by omega) (by omega) (by omega)], REL.chg hC hM hG (by omega) hK2 (qN_rng hG.2.1) (O1.mono (by omega)) (D1.mono (by omega)) (K1.frame (fun _ _ _ => rfl) (by omega)) F1 K2 F2⟩
theorem z_hand {y1 y2 : Int} (h : REL M K) (hK2 : K + 12000 ≤ 70000000) : ∃ res M1, fX8_hand gsh 1 y1 y2 M = some (res, M1) ∧ (∀ e, res = .inl e → e = 3) ∧ ∀ N0, gOut M1 N0 → ∃ M2, fX9_hand gsh 855 y1 y2 N0 = some (qWert res, M2) ∧ M2 855 7 = qThr 3 res ∧ M2 864 = N0 864 ∧ REL M2 (K + 12000) := by
  obtain ⟨r, n, kept, fl, sv, x, xn, ep, L, hC, hM, hG⟩ := h
  have hO := hC.1
  have hK := hG.1
  obtain ⟨M1, e1, D1, O1, K1, F1⟩ := a_hand (g := gsh) (a := 1) (k := y1) (p := y2) hO hC.2.1 hC.2.2.1 hG.2.1
  refine ⟨(sHand r y1 y2).1, M1, e1, fun e h => s_hand h, fun N0 hN => ?_⟩
  have F1 : gFd 1 (mOut M N0) N0 := fun y q => out_f hN (F1 y q)
  have D1 := D1.frame O1 (fun y q1 q2 => hN y (by omega))
  have K1 := K1.frame (fun y q1 q2 => hN y (by omega)) (Int.le_refl _)
  have hC := hC.out (N0 := N0)
  have hM := hM.out (N0 := N0)
  have hKM : KM N0 855 n kept := hM.2.1.frame (by rw [F1 855 (by omega)]) (F1 _ (by omega))
  obtain ⟨N, e2, K2, v7, F2⟩ := b_hand (g := gsh) (a := 855) (M := N0) (r := r) (k := y1) (p := y2) gl1 gl4 hO hKM
  rw [row_in1 hM (F1 856 (by omega))] at e2
  exact ⟨_, e2, by rw [mrow_ne (by omega)]; exact v7, by rw [mrow_ne (by omega), F2.1 _ (by omega) (by omega) (by omega)], REL.chg hC hM hG (by omega) hK2 (qN_rng hG.2.1) (O1.mono (by omega)) (D1.mono (by omega)) (K1.frame (fun _ _ _ => rfl) (by omega)) F1 K2 F2⟩
theorem z_kill {y1 : Int} (h : REL M K) (hK2 : K + 12000 ≤ 70000000) : ∃ res M1, fX8_kill gsh 1 y1 M = some (res, M1) ∧ (∀ e, res = .inl e → e = 3) ∧ ∀ N0, gOut M1 N0 → ∃ M2, fX9_kill gsh 855 y1 N0 = some (qWert res, M2) ∧ M2 855 7 = qThr 3 res ∧ M2 864 = N0 864 ∧ REL M2 (K + 12000) := by
  obtain ⟨r, n, kept, fl, sv, x, xn, ep, L, hC, hM, hG⟩ := h
  have hO := hC.1
  have hK := hG.1
  obtain ⟨M1, e1, D1, O1, K1, F1⟩ := a_kill (g := gsh) (a := 1) (p := y1) hO hC.2.1 hC.2.2.1 hG.2.1
  refine ⟨(sKill r y1).1, M1, e1, fun e h => s_kill h, fun N0 hN => ?_⟩
  have F1 : gFd 1 (mOut M N0) N0 := fun y q => out_f hN (F1 y q)
  have D1 := D1.frame O1 (fun y q1 q2 => hN y (by omega))
  have K1 := K1.frame (fun y q1 q2 => hN y (by omega)) (Int.le_refl _)
  have hC := hC.out (N0 := N0)
  have hM := hM.out (N0 := N0)
  have hKM : KM N0 855 n kept := hM.2.1.frame (by rw [F1 855 (by omega)]) (F1 _ (by omega))
  obtain ⟨N, e2, K2, v7, F2⟩ := b_kill (g := gsh) (a := 855) (M := N0) (r := r) (p := y1) gl1 gl4 hO hKM
  rw [row_in1 hM (F1 856 (by omega))] at e2
  exact ⟨_, e2, by rw [mrow_ne (by omega)]; exact v7, by rw [mrow_ne (by omega), F2.1 _ (by omega) (by omega) (by omega)], REL.chg hC hM hG (by omega) hK2 (qN_rng hG.2.1) (O1.mono (by omega)) (D1.mono (by omega)) (K1.frame (fun _ _ _ => rfl) (by omega)) F1 K2 F2⟩
theorem z_wake {y1 : Int} (h : REL M K) (hK2 : K + 12000 ≤ 70000000) : ∃ res M1, fX8_wake gsh 1 y1 M = some (res, M1) ∧ (∀ e, res = .inl e → e = 3) ∧ ∀ N0, gOut M1 N0 → ∃ M2, fX9_wake gsh 855 y1 N0 = some (qWert res, M2) ∧ M2 855 7 = qThr 3 res ∧ M2 864 = N0 864 ∧ REL M2 (K + 12000) := by
  obtain ⟨r, n, kept, fl, sv, x, xn, ep, L, hC, hM, hG⟩ := h
  have hO := hC.1
  have hK := hG.1
  obtain ⟨M1, e1, D1, O1, K1, F1⟩ := a_wake (g := gsh) (a := 1) (p := y1) hO hC.2.1 hC.2.2.1 hG.2.1
  refine ⟨(sWake r y1).1, M1, e1, fun e h => s_wake h, fun N0 hN => ?_⟩
  have F1 : gFd 1 (mOut M N0) N0 := fun y q => out_f hN (F1 y q)
  have D1 := D1.frame O1 (fun y q1 q2 => hN y (by omega))
  have K1 := K1.frame (fun y q1 q2 => hN y (by omega)) (Int.le_refl _)
  have hC := hC.out (N0 := N0)
  have hM := hM.out (N0 := N0)
  have hKM : KM N0 855 n kept := hM.2.1.frame (by rw [F1 855 (by omega)]) (F1 _ (by omega))
  obtain ⟨N, e2, K2, v7, F2⟩ := b_wake (g := gsh) (a := 855) (M := N0) (r := r) (p := y1) gl1 gl4 hO hKM
  rw [row_in1 hM (F1 856 (by omega))] at e2
  exact ⟨_, e2, by rw [mrow_ne (by omega)]; exact v7, by rw [mrow_ne (by omega), F2.1 _ (by omega) (by omega) (by omega)], REL.chg hC hM hG (by omega) hK2 (qN_rng hG.2.1) (O1.mono (by omega)) (D1.mono (by omega)) (K1.frame (fun _ _ _ => rfl) (by omega)) F1 K2 F2⟩
theorem z_undo (h : REL M K) : ∃ res M1, fX8_undo gsh 1 M = some (res, M1) ∧ (∀ e, res = .inl e → e = 1) ∧ ∀ N0, gOut M1 N0 → ∃ M2, fX9_undo gsh 855 N0 = some (qWert res, M2) ∧ M2 855 7 = qThr 1 res ∧ M2 864 = N0 864 ∧ REL M2 K := by
  obtain ⟨r, n, kept, fl, sv, x, xn, ep, L, hC, hM, hG⟩ := h
  have hO := hC.1
  have hn := hG.2.1
  obtain ⟨M1, e1, D1, O1, K1, F1⟩ := a_undo (g := gsh) (a := 1) hO hC.2.1 hC.2.2.1 hn
  have fin : ∀ N0, gOut M1 N0 → ∃ N r', fX9_undo gsh 855 N0 = some (_, mrow N (855 + 1) r') ∧ _ ∧ KM N 855 _ _ ∧ N 855 7 = _ ∧ gFm 855 N0 N := fun N0 hN => by
    have F1 : gFd 1 (mOut M N0) N0 := fun y q => out_f hN (F1 y q)
    have hM := hM.out (N0 := N0)
    have hKM : KM N0 855 n kept := hM.2.1.frame (by rw [F1 855 (by omega)]) (F1 _ (by omega))
    obtain ⟨N, r', e2, q, K2, v7, F2⟩ := b_undo (g := gsh) (a := 855) (M := N0) (r := r) gl1 gl4 hKM
    rw [row_in1 hM (F1 856 (by omega))] at e2
    exact ⟨N, r', e2, q, K2, v7, F2⟩
  by_cases h0 : n = 0
  · simp only [if_pos h0] at e1 D1 O1 K1 fin
    refine ⟨.inl 1, M1, e1, fun e h => (Sum.inl.inj h).symm, fun N0 hN => ?_⟩
    obtain ⟨N, r', e2, q, K2, v7, F2⟩ := fin N0 hN
    have F1 : gFd 1 (mOut M N0) N0 := fun y q => out_f hN (F1 y q)
    have D1 := D1.frame O1 (fun y q1 q2 => hN y (by omega))
    have K1 := K1.frame (fun y q1 q2 => hN y (by omega)) (Int.le_refl _)
    refine ⟨_, e2, by rw [mrow_ne (by omega), v7]; rfl, by rw [mrow_ne (by omega), F2.1 _ (by omega) (by omega) (by omega)], ?_⟩
    rw [q]
    exact REL.chg hC.out hM.out hG (Int.le_refl K) hG.1.2 hn O1 D1 K1 F1 K2 F2
  · simp only [if_neg h0] at e1 D1 O1 K1 fin
    refine ⟨.inr (n - 1), M1, e1, fun e h => (by cases h), fun N0 hN => ?_⟩
    obtain ⟨N, r', e2, q, K2, v7, F2⟩ := fin N0 hN
    have F1 : gFd 1 (mOut M N0) N0 := fun y q => out_f hN (F1 y q)
    have D1 := D1.frame O1 (fun y q1 q2 => hN y (by omega))
    have K1 := K1.frame (fun y q1 q2 => hN y (by omega)) (Int.le_refl _)
    refine ⟨_, e2, by rw [mrow_ne (by omega), v7]; rfl, by rw [mrow_ne (by omega), F2.1 _ (by omega) (by omega) (by omega)], ?_⟩
    exact REL.chg hC.out hM.out hG (Int.le_refl K) hG.1.2 (by omega) (O1.eq q) (D1.eq O1 q) K1 F1 K2 F2
theorem z_restore {y1 : Int} (h : REL M K) : ∃ res M1, fX8_restore gsh 1 y1 M = some (res, M1) ∧ (∀ e, res = .inl e → e = 3 ∨ e = 1) ∧ ∀ N0, gOut M1 N0 → ∃ M2, fX9_restore gsh 855 y1 N0 = some (qWert res, M2) ∧ M2 855 7 = qThr 3 res ∧ M2 864 = N0 864 ∧ REL M2 K := by
  obtain ⟨r, n, kept, fl, sv, x, xn, ep, L, hC, hM, hG⟩ := h
  have hO := hC.1
  have hn := hG.2.1
  obtain ⟨M1, e1, D1, O1, K1, F1⟩ := a_restore (g := gsh) (a := 1) (x := y1) hO hC.2.1 hC.2.2.1 hn hC.2.2.2.1
  refine ⟨(sRestore r fl sv y1).1, M1, e1, fun e h => s_restore h, fun N0 hN => ?_⟩
  have F1 : gFd 1 (mOut M N0) N0 := fun y q => out_f hN (F1 y q)
  have D1 := D1.frame O1 (fun y q1 q2 => hN y (by omega))
  have K1 := K1.frame (fun y q1 q2 => hN y (by omega)) (Int.le_refl _)
  have hC := hC.out (N0 := N0)
  have hM := hM.out (N0 := N0)
  have hKM : KM N0 855 n kept := hM.2.1.frame (by rw [F1 855 (by omega)]) (F1 _ (by omega))
  have hSM : SM N0 855 fl sv := hM.2.2.1.frame (F1 _ (by omega)) (F1 _ (by omega))
  obtain ⟨N, r', e2, q, K2, v7, F2⟩ := b_restore (g := gsh) (a := 855) (M := N0) (r := r) (x := y1) gl1 gl4 gl5 hKM hSM hG.2.2.1
  rw [row_in1 hM (F1 856 (by omega))] at e2
  exact ⟨_, e2, by rw [mrow_ne (by omega)]; exact v7, by rw [mrow_ne (by omega), F2.1 _ (by omega) (by omega) (by omega)], REL.chg hC hM hG (Int.le_refl K) hG.1.2 (qN_rng hn) (O1.eq q) (D1.eq O1 q) K1 F1 K2 F2⟩
theorem z_writtenByte {y1 : Int} (h : REL M K) : ∃ res, fX8_writtenByte gsh 1 y1 M = some res ∧ (∀ e, res = .inl e → e = 3) ∧ ∀ N0, gOut M N0 → ∃ M2, fX9_writtenByte gsh 855 y1 N0 = some (qWert res, M2) ∧ M2 855 7 = qThr 3 res ∧ M2 864 = N0 864 ∧ REL M2 K := by
  obtain ⟨r, n, kept, fl, sv, x, xn, ep, L, hC, hM, hG⟩ := h
  refine ⟨sByte L y1, a_byte hC.2.2.2.2.2.2 hG.2.2.2.2, fun e h => ?_, fun N0 hN => ?_⟩
  · unfold sByte at h
    by_cases hx : 0 ≤ y1 ∧ y1 < (L.length : Int)
    · rw [if_pos hx] at h; cases h
    · rw [if_neg hx] at h; exact (Sum.inl.inj h).symm
  · have hC := hC.to hN
    have hM := hM.to hN
    have e2 := b_byte (g := gsh) (x := y1) hM.2.2.2.2.2 hG.2.2.2.2
    have R := REL.ask (v := qThr 3 (sByte L y1)) hC hM hG
    have er : mrow (gup N0 855 7 (qThr 3 (sByte L y1))) (855 + 1) r = gup N0 855 7 (qThr 3 (sByte L y1)) := by
      have : gup N0 855 7 (qThr 3 (sByte L y1)) (855 + 1) = r := by rw [gup_row (by omega)]; exact hM.1
      rw [← this]; exact mrow_self _ _
    rw [er] at R
    exact ⟨_, e2, gup_hit rfl rfl, gup_row (by omega), R⟩
theorem z_append {y1 y2 y3 y4 y5 : Int} (h : REL M K) : ∃ res M1, fX8_append gsh 1 y1 y2 y3 y4 y5 M = some (res, M1) ∧ (∀ e, res = .inl e → e = 1) ∧ ∀ N0, gOut M1 N0 → ∃ M2, fX9_append gsh 855 y1 y2 y3 y4 y5 N0 = some (qWert res, M2) ∧ M2 855 7 = qThr 1 res ∧ M2 864 = N0 864 ∧ REL M2 K := by
  obtain ⟨r, n, kept, fl, sv, x, xn, ep, L, hC, hM, hG⟩ := h
  obtain ⟨c1, c2, c3, c4, c5, c6, c7⟩ := hC
  obtain ⟨M1, e1, B1, X1, F1⟩ := a_append (g := gsh) (a := 1) (v1 := y1) (v2 := y2) (v3 := y3) (v4 := y4) (v5 := y5) (s := (x, xn)) hG.2.2.2.1 c5
  refine ⟨_, M1, e1, fun e h => ?_, fun N0 hN => ?_⟩
  · unfold sAppend at h
    by_cases hx : (x, xn).2 + qNz5 y1 y2 y3 y4 y5 ≤ 600
    · rw [if_pos hx] at h; cases h
    · rw [if_neg hx] at h; exact (Sum.inl.inj h).symm
  · obtain ⟨c1, c2, c3, c4, c5, c6, c7⟩ := (show CR M K r n kept fl sv x xn ep L from ⟨c1, c2, c3, c4, c5, c6, c7⟩).out (N0 := N0)
    obtain ⟨a1, a2, a3, a4, a5, a6⟩ := hM.out (N0 := N0)
    have B1 := B1.frame (hN _ (by omega)) (hN _ (by omega))
    have F1 : (∀ y : Nat, ¬ y = 786 → ¬ y = 787 → N0 y = mOut M N0 y) ∧ ∀ j : Nat, ¬ j = 2 → N0 786 j = mOut M N0 786 j := ⟨fun y q1 q2 => out_f hN (F1.1 y q1 q2), fun j q => by rw [hN _ (by omega), mOut_ne (by omega)]; exact F1.2 j q⟩
    have hB : BM N0 855 x xn := a4.frame (by rw [F1.1 855 (by omega) (by omega)]) (F1.1 _ (by omega) (by omega))
    obtain ⟨N, e2, B2, v7, F2⟩ := b_append (g := gsh) (a := 855) (v1 := y1) (v2 := y2) (v3 := y3) (v4 := y4) (v5 := y5) (s := (x, xn)) hG.2.2.2.1 hB
    have hlo : ∀ y : Nat, y < 855 → N y = N0 y := fun y q => F2.1 y (by omega) (by omega)
    have hlo2 : ∀ y : Nat, y < 786 ∨ (787 < y ∧ y < 855) → N y = mOut M N0 y := fun y q => by rw [hlo y (by omega), F1.1 y (by omega) (by omega)]
    have hhi : ∀ y : Nat, 855 < y → ¬ y = 862 → N y = mOut M N0 y := fun y q1 q2 => by rw [F2.1 y (by omega) (by omega), F1.1 y (by omega) (by omega)]
    have fa : ∀ j : Nat, ¬ j = 7 → ¬ j = 9 → N 855 j = mOut M N0 855 j := fun j q1 q2 => by rw [F2.2 j q1 q2, F1.1 855 (by omega) (by omega)]
    refine ⟨N, e2, v7, (hhi 864 (by omega) (by omega)).trans (by unfold mOut; rw [if_pos rfl]), ⟨r, n, kept, fl, sv, _, _, ep, L, ⟨c1, c2.frame c1 (fun y q1 q2 => hlo2 y (by omega)), c3.frame (fun y q1 q2 => hlo2 y (by omega)) (Int.le_refl K), c4.frame (fun y q1 q2 => hlo2 y (by omega)) (Int.le_refl K), B1.frame (hlo _ (by omega)) (hlo _ (by omega)), ?_, c7.frame (hlo2 _ (by omega)) (hlo2 _ (by omega))⟩, ⟨by rw [hhi _ (by omega) (by omega)]; exact a1, a2.frame (fa 6 (by omega) (by omega)) (hhi _ (by omega) (by omega)), a3.frame (hhi _ (by omega) (by omega)) (hhi _ (by omega) (by omega)), B2, by rw [fa 16 (by omega) (by omega)]; exact a5, a6.frame (fa 19 (by omega) (by omega)) (hhi _ (by omega) (by omega))⟩, ⟨hG.1, hG.2.1, hG.2.2.1, X1, hG.2.2.2.2⟩⟩⟩
    rw [hlo _ (by omega), F1.2 4 (by omega)]; exact c6
end RelZ
