/-! PURE: the two systems side by side in one memory (class at 1, reference at 855), call by call -/
def CR (M : gMem) (K : Int) (r : gRow) (n : Int) (kept : Nat → gRow) (fl : Nat → Int) (sv : Nat → gRow) (x : gRow) (xn ep : Int) (L : List Int) : Prop :=
  qOK r K ∧ DR M 2 r K ∧ KC M 132 n kept K ∧ SC M 1 fl sv K ∧ BC M 786 x xn ∧ M 786 4 = ep ∧ WC M 853 L
def MR (M : gMem) (r : gRow) (n : Int) (kept : Nat → gRow) (fl : Nat → Int) (sv : Nat → gRow) (x : gRow) (xn ep : Int) (L : List Int) : Prop :=
  M 856 = r ∧ KM M 855 n kept ∧ SM M 855 fl sv ∧ BM M 855 x xn ∧ M 855 16 = ep ∧ WM M 855 L
def GR (K n : Int) (fl : Nat → Int) (x : gRow) (xn : Int) (L : List Int) : Prop := (0 ≤ K ∧ K ≤ 70000000) ∧ (0 ≤ n ∧ n ≤ 8) ∧ (∀ i : Nat, i < 2 → fl i = 0 ∨ fl i = 1) ∧ BX x xn ∧ L.length ≤ 2000
def REL (M : gMem) (K : Int) : Prop := ∃ r n kept fl sv x xn ep L, CR M K r n kept fl sv x xn ep L ∧ MR M r n kept fl sv x xn ep L ∧ GR K n fl x xn L
theorem gl1 : gsh (855 + 1) / 16 - 1 = 1190 := by decide +kernel
theorem gl2 : gsh (855 + 2) / 16 - 1 = 1190 := by decide +kernel
theorem gl3 : gsh (855 + 3) / 16 - 1 = 1190 := by decide +kernel
theorem gl4 : gsh (855 + 4) / 16 - 1 = 9520 := by decide +kernel
theorem gl5 : gsh (855 + 5) / 16 - 1 = 2380 := by decide +kernel
section Rel
variable {M M' M1 M2 : gMem} {K K' n xn ep : Int} {r r' x : gRow} {kept : Nat → gRow} {fl : Nat → Int} {sv : Nat → gRow} {L : List Int}
theorem BC.frame {b : Nat} (h : BC M b x xn) (h1 : M' b = M b) (h2 : M' (b + 1) = M (b + 1)) : BC M' b x xn := ⟨by rw [h1]; exact h.1, fun k q1 q2 => by rw [h2]; exact h.2 k q1 q2⟩
theorem BM.frame {b : Nat} (h : BM M b x xn) (h1 : M' b 9 = M b 9) (h2 : M' (b + 7) = M (b + 7)) : BM M' b x xn := ⟨by rw [h1]; exact h.1, fun k q1 q2 => by rw [h2]; exact h.2 k q1 q2⟩
theorem WC.frame {b : Nat} (h : WC M b L) (h1 : M' b = M b) (h2 : M' (b + 1) = M (b + 1)) : WC M' b L := ⟨by rw [h1]; exact h.1, fun k q1 => by rw [h2]; exact h.2 k q1⟩
theorem WM.frame {b : Nat} (h : WM M b L) (h1 : M' b 19 = M b 19) (h2 : M' (b + 8) = M (b + 8)) : WM M' b L := ⟨by rw [h1]; exact h.1, fun k q1 => by rw [h2]; exact h.2 k q1⟩
theorem CR.fr (h : CR M K r n kept fl sv x xn ep L) (hKK : K ≤ K') (hm : ∀ y : Nat, y < 67 ∨ (132 ≤ y ∧ y < 855) → M' y = M y) : CR M' K' r n kept fl sv x xn ep L := by
  obtain ⟨h1, h2, h3, h4, h5, h6, h7⟩ := h
  exact ⟨h1.mono hKK, (h2.frame h1 (fun y q1 q2 => hm y (by omega))).mono hKK, h3.frame (fun y q1 q2 => hm y (by omega)) hKK, h4.frame (fun y q1 q2 => hm y (by omega)) hKK, h5.frame (hm _ (by omega)) (hm _ (by omega)), by rw [hm _ (by omega)]; exact h6, h7.frame (hm _ (by omega)) (hm _ (by omega))⟩
theorem CR.hi (h : CR M K r n kept fl sv x xn ep L) (hm : ∀ y : Nat, y < 855 → M' y = M y) : CR M' K r n kept fl sv x xn ep L := h.fr (Int.le_refl K) (fun y q => hm y (by omega))
theorem MR.fr (h : MR M r n kept fl sv x xn ep L) (h1 : M' 856 = M 856) (h4 : M' 859 = M 859) (h5 : M' 860 = M 860) (h6 : M' 861 = M 861) (h7 : M' 862 = M 862) (h8 : M' 863 = M 863) (f : ∀ j : Nat, j = 6 ∨ j = 9 ∨ j = 16 ∨ j = 19 → M' 855 j = M 855 j) : MR M' r n kept fl sv x xn ep L := by
  obtain ⟨a1, a2, a3, a4, a5, a6⟩ := h
  exact ⟨h1.trans a1, a2.frame (f 6 (by omega)) h4, a3.frame h5 h6, a4.frame (f 9 (by omega)) h7, by rw [f 16 (by omega)]; exact a5, a6.frame (f 19 (by omega)) h8⟩
theorem MR.lo (h : MR M r n kept fl sv x xn ep L) (hm : ∀ y : Nat, 855 ≤ y → M' y = M y) : MR M' r n kept fl sv x xn ep L :=
  h.fr (hm _ (by omega)) (hm _ (by omega)) (hm _ (by omega)) (hm _ (by omega)) (hm _ (by omega)) (hm _ (by omega)) (fun j _ => by rw [hm 855 (by omega)])
theorem GR.mono (h : GR K n fl x xn L) (hKK : K ≤ K') (hK : K' ≤ 70000000) : GR K' n fl x xn L := ⟨by have := h.1; omega, h.2⟩
/-- a question leaves all as it was, but what the reference threw -/
theorem REL.ask {v : Int} (hC : CR M K r n kept fl sv x xn ep L) (hM : MR M r n kept fl sv x xn ep L) (hG : GR K n fl x xn L) : REL (mrow (gup M 855 7 v) (855 + 1) r) K := by
  have e : mrow (gup M 855 7 v) (855 + 1) r = gup M 855 7 v := by
    have : gup M 855 7 v (855 + 1) = r := by rw [gup_row (by omega)]; exact hM.1
    rw [← this]; exact mrow_self _ _
  rw [e]
  exact ⟨r, n, kept, fl, sv, x, xn, ep, L, hC.hi (fun y q => gup_row (by omega)), hM.fr (gup_row (by omega)) (gup_row (by omega)) (gup_row (by omega)) (gup_row (by omega)) (gup_row (by omega)) (gup_row (by omega)) (fun j q => gup_miss (by omega)), hG⟩
theorem row_in (hM : MR M r n kept fl sv x xn ep L) : mrow M (855 + 1) r = M := by
  have : M (855 + 1) = r := hM.1
  rw [← this]; exact mrow_self _ _
/-- a try leaves all as it was -/
theorem REL.try {N : gMem} (hC : CR M K r n kept fl sv x xn ep L) (hM : MR M r n kept fl sv x xn ep L) (hG : GR K n fl x xn L) (hc : gFc 1 M M1) (hN : gFt 855 M1 N) : REL (mrow N (855 + 1) r) K := by
  have hm : ∀ y : Nat, 855 ≤ y → M1 y = M y := fun y q => hc y (by omega)
  refine ⟨r, n, kept, fl, sv, x, xn, ep, L, hC.fr (Int.le_refl K) (fun y q => ?_), ⟨mrow_at _ _ _, ?_⟩, hG⟩
  · rw [mrow_ne (by omega), hN.1 y (by omega) (by omega) (by omega), hc y (by omega)]
  · obtain ⟨a1, a2, a3, a4, a5, a6⟩ := hM
    have f : ∀ y : Nat, 859 ≤ y → mrow N (855 + 1) r y = M y := fun y q => by rw [mrow_ne (by omega), hN.1 y (by omega) (by omega) (by omega), hm y (by omega)]
    have fa : ∀ j : Nat, ¬ j = 7 → ¬ j = 17 → mrow N (855 + 1) r 855 j = M 855 j := fun j q1 q2 => by rw [mrow_ne (by omega), hN.2 j q1 q2, hm 855 (by omega)]
    exact ⟨a2.frame (fa 6 (by omega) (by omega)) (f _ (by omega)), a3.frame (f _ (by omega)) (f _ (by omega)), a4.frame (fa 9 (by omega) (by omega)) (f _ (by omega)), by rw [fa 16 (by omega) (by omega)]; exact a5, a6.frame (fa 19 (by omega) (by omega)) (f _ (by omega))⟩
theorem row_in1 {N : gMem} (hM : MR M r n kept fl sv x xn ep L) (hm : N 856 = M 856) : mrow N (855 + 1) r = N := by
  have : N (855 + 1) = r := by rw [show (855 + 1 : Nat) = 856 from rfl, hm]; exact hM.1
  rw [← this]; exact mrow_self _ _
/-- a change: both sides hold the new row -/
theorem REL.chg {N : gMem} {n' : Int} {kept' : Nat → gRow} (hC : CR M K r n kept fl sv x xn ep L) (hM : MR M r n kept fl sv x xn ep L) (hG : GR K n fl x xn L) (hKK : K ≤ K') (hK' : K' ≤ 70000000) (hn' : 0 ≤ n' ∧ n' ≤ 8)
    (hO : qOK r' K') (hD : DR M1 2 r' K') (hKC : KC M1 132 n' kept' K') (hc : gFd 1 M M1) (hKM : KM N 855 n' kept') (hN : gFm 855 M1 N) : REL (mrow N (855 + 1) r') K' := by
  have hlo : ∀ y : Nat, y < 855 → mrow N (855 + 1) r' y = M1 y := fun y q => by rw [mrow_ne (by omega), hN.1 y (by omega) (by omega) (by omega)]
  obtain ⟨c1, c2, c3, c4, c5, c6, c7⟩ := hC
  obtain ⟨a1, a2, a3, a4, a5, a6⟩ := hM
  have f : ∀ y : Nat, 860 ≤ y → mrow N (855 + 1) r' y = M y := fun y q => by rw [mrow_ne (by omega), hN.1 y (by omega) (by omega) (by omega), hc y (by omega)]
  have fa : ∀ j : Nat, ¬ j = 6 → ¬ j = 7 → mrow N (855 + 1) r' 855 j = M 855 j := fun j q1 q2 => by rw [mrow_ne (by omega), hN.2 j q1 q2, hc 855 (by omega)]
  have hi : ∀ y : Nat, 654 ≤ y → y < 855 → mrow N (855 + 1) r' y = M y := fun y q1 q2 => by rw [hlo y q2, hc y (by omega)]
  refine ⟨r', n', kept', fl, sv, x, xn, ep, L, ⟨hO, hD.frame hO (fun y q1 q2 => hlo y (by omega)), hKC.frame (fun y q1 q2 => hlo y (by omega)) (Int.le_refl K'), c4.frame (fun y q1 q2 => hi y (by omega) (by omega)) hKK, c5.frame (hi _ (by omega) (by omega)) (hi _ (by omega) (by omega)), by rw [hi _ (by omega) (by omega)]; exact c6, c7.frame (hi _ (by omega) (by omega)) (hi _ (by omega) (by omega))⟩, ⟨mrow_at _ _ _, hKM.frame (by rw [mrow_ne (by omega)]) (mrow_ne (by omega)), a3.frame (f _ (by omega)) (f _ (by omega)), a4.frame (fa 9 (by omega) (by omega)) (f _ (by omega)), by rw [fa 16 (by omega) (by omega)]; exact a5, a6.frame (fa 19 (by omega) (by omega)) (f _ (by omega))⟩, ⟨by have := hG.1; omega, hn', hG.2.2⟩⟩
theorem qN_rng {b : Bool} (hn : 0 ≤ n ∧ n ≤ 8) : 0 ≤ qN b n ∧ qN b n ≤ 8 := by
  unfold qN gmin
  repeat' split
  all_goals omega

theorem s_count {y1 : Int} {e : Nat} (h : sCount r y1 = .inl e) : e = 2 := by
  unfold sCount at h
  by_cases c0 : y1 = 0
  · rw [if_pos c0] at h; cases h
  rw [if_neg c0] at h
  by_cases c1 : y1 = 1
  · rw [if_pos c1] at h; cases h
  rw [if_neg c1] at h
  by_cases c2 : y1 = 2
  · rw [if_pos c2] at h; cases h
  rw [if_neg c2] at h
  by_cases c3 : y1 = 3
  · rw [if_pos c3] at h; cases h
  rw [if_neg c3] at h
  by_cases c4 : y1 = 4
  · rw [if_pos c4] at h; cases h
  rw [if_neg c4] at h
  by_cases c5 : y1 = 5
  · rw [if_pos c5] at h; cases h
  rw [if_neg c5] at h
  by_cases c6 : y1 = 6
  · rw [if_pos c6] at h; cases h
  rw [if_neg c6] at h
  by_cases c7 : y1 = 7
  · rw [if_pos c7] at h; cases h
  rw [if_neg c7] at h
  by_cases c8 : y1 = 8
  · rw [if_pos c8] at h; cases h
  rw [if_neg c8] at h
  by_cases c9 : y1 = 9
  · rw [if_pos c9] at h; cases h
  rw [if_neg c9] at h
  by_cases c10 : y1 = 10
  · rw [if_pos c10] at h; cases h
  rw [if_neg c10] at h
  cases h
  rfl
theorem k_count {y1 : Int} (h : REL M K) : ∃ res M2, fX8_count gsh 1 y1 M = some res ∧ fX9_count gsh 855 y1 M = some (qWert res, M2) ∧ M2 855 7 = qThr 2 res ∧ (∀ e, res = .inl e → e = 2) ∧ REL M2 K := by
  obtain ⟨r, n, kept, fl, sv, x, xn, ep, L, hC, hM, hG⟩ := h
  have hO := hC.1
  have hK := hG.1
  have e2 := b_count (g := gsh) (a := 855) (M := M) (x := y1) hO (by omega)
  rw [row_in hM] at e2
  exact ⟨sCount r y1, _, a_count (a := 1) hO (by omega) hC.2.1, e2, mrow_7, fun e h => s_count h, REL.ask hC hM hG⟩
theorem s_process {y1 y2 : Int} {e : Nat} (h : sProcess r y1 y2 = .inl e) : e = 3 ∨ e = 2 := by
  unfold sProcess at h
  repeat' (split at h)
  all_goals (first | cases h | skip)
  all_goals (first | exact Or.inl rfl | exact Or.inr rfl | rfl)
theorem k_process {y1 y2 : Int} (h : REL M K) : ∃ res M2, fX8_process gsh 1 y1 y2 M = some res ∧ fX9_process gsh 855 y1 y2 M = some (qWert res, M2) ∧ M2 855 7 = qThr 3 res ∧ (∀ e, res = .inl e → e = 3 ∨ e = 2) ∧ REL M2 K := by
  obtain ⟨r, n, kept, fl, sv, x, xn, ep, L, hC, hM, hG⟩ := h
  have hO := hC.1
  have hK := hG.1
  have e2 := b_process (g := gsh) (a := 855) (M := M) (p := y1) (x := y2) hO
  rw [row_in hM] at e2
  exact ⟨sProcess r y1 y2, _, a_process (a := 1) hO hC.2.1, e2, mrow_7, fun e h => s_process h, REL.ask hC hM hG⟩
theorem s_stack {y1 y2 : Int} {e : Nat} (h : sStack r y1 y2 = .inl e) : e = 3 ∨ e = 2 := by
  unfold sStack at h
  repeat' (split at h)
  all_goals (first | cases h | skip)
  all_goals (first | exact Or.inl rfl | exact Or.inr rfl | rfl)
theorem k_stack {y1 y2 : Int} (h : REL M K) : ∃ res M2, fX8_stack gsh 1 y1 y2 M = some res ∧ fX9_stack gsh 855 y1 y2 M = some (qWert res, M2) ∧ M2 855 7 = qThr 3 res ∧ (∀ e, res = .inl e → e = 3 ∨ e = 2) ∧ REL M2 K := by
  obtain ⟨r, n, kept, fl, sv, x, xn, ep, L, hC, hM, hG⟩ := h
  have hO := hC.1
  have hK := hG.1
  have e2 := b_stack (g := gsh) (a := 855) (M := M) (p := y1) (x := y2) hO
  rw [row_in hM] at e2
  exact ⟨sStack r y1 y2, _, a_stack (a := 1) hO hC.2.1, e2, mrow_7, fun e h => s_stack h, REL.ask hC hM hG⟩
theorem s_number {y1 y2 : Int} {e : Nat} (h : sNumber r y1 y2 = .inl e) : e = 3 := by
  unfold sNumber at h
  repeat' (split at h)
  all_goals (first | cases h | skip)
  all_goals (first | exact Or.inl rfl | exact Or.inr rfl | rfl)
theorem k_number {y1 y2 : Int} (h : REL M K) : ∃ res M2, fX8_number gsh 1 y1 y2 M = some res ∧ fX9_number gsh 855 y1 y2 M = some (qWert res, M2) ∧ M2 855 7 = qThr 3 res ∧ (∀ e, res = .inl e → e = 3) ∧ REL M2 K := by
  obtain ⟨r, n, kept, fl, sv, x, xn, ep, L, hC, hM, hG⟩ := h
  have hO := hC.1
  have hK := hG.1
  have e2 := b_number (g := gsh) (a := 855) (M := M) (p := y1) (x := y2) hO
  rw [row_in hM] at e2
  exact ⟨sNumber r y1 y2, _, a_number (a := 1) hO hC.2.1, e2, mrow_7, fun e h => s_number h, REL.ask hC hM hG⟩
theorem s_slot {y1 : Int} {e : Nat} (h : sSlot r y1 = .inl e) : e = 3 := by
  unfold sSlot at h
  repeat' (split at h)
  all_goals (first | cases h | skip)
  all_goals (first | exact Or.inl rfl | exact Or.inr rfl | rfl)
theorem k_slot {y1 : Int} (h : REL M K) : ∃ res M2, fX8_slot gsh 1 y1 M = some res ∧ fX9_slot gsh 855 y1 M = some (qWert res, M2) ∧ M2 855 7 = qThr 3 res ∧ (∀ e, res = .inl e → e = 3) ∧ REL M2 K := by
  obtain ⟨r, n, kept, fl, sv, x, xn, ep, L, hC, hM, hG⟩ := h
  have hO := hC.1
  have hK := hG.1
  have e2 := b_slot (g := gsh) (a := 855) (M := M) (k := y1) hO
  rw [row_in hM] at e2
  exact ⟨sSlot r y1, _, a_slot (a := 1) hO hC.2.1, e2, mrow_7, fun e h => s_slot h, REL.ask hC hM hG⟩
theorem s_command {y1 y2 y3 : Int} {e : Nat} (h : sCommand r y1 y2 y3 = .inl e) : e = 3 ∨ e = 2 := by
  unfold sCommand at h
  repeat' (split at h)
  all_goals (first | cases h | skip)
  all_goals (first | exact Or.inl rfl | exact Or.inr rfl | rfl)
theorem k_command {y1 y2 y3 : Int} (h : REL M K) : ∃ res M2, fX8_command gsh 1 y1 y2 y3 M = some res ∧ fX9_command gsh 855 y1 y2 y3 M = some (qWert res, M2) ∧ M2 855 7 = qThr 3 res ∧ (∀ e, res = .inl e → e = 3 ∨ e = 2) ∧ REL M2 K := by
  obtain ⟨r, n, kept, fl, sv, x, xn, ep, L, hC, hM, hG⟩ := h
  have hO := hC.1
  have hK := hG.1
  have e2 := b_command (g := gsh) (a := 855) (M := M) (p := y1) (k := y2) (x := y3) hO
  rw [row_in hM] at e2
  exact ⟨sCommand r y1 y2 y3, _, a_command (a := 1) hO hC.2.1, e2, mrow_7, fun e h => s_command h, REL.ask hC hM hG⟩
theorem s_said {y1 y2 : Int} {e : Nat} (h : sSaid r y1 y2 = .inl e) : e = 3 := by
  unfold sSaid at h
  repeat' (split at h)
  all_goals (first | cases h | skip)
  all_goals (first | exact Or.inl rfl | exact Or.inr rfl | rfl)
theorem k_said {y1 y2 : Int} (h : REL M K) : ∃ res M2, fX8_said gsh 1 y1 y2 M = some res ∧ fX9_said gsh 855 y1 y2 M = some (qWert res, M2) ∧ M2 855 7 = qThr 3 res ∧ (∀ e, res = .inl e → e = 3) ∧ REL M2 K := by
  obtain ⟨r, n, kept, fl, sv, x, xn, ep, L, hC, hM, hG⟩ := h
  have hO := hC.1
  have hK := hG.1
  have e2 := b_said (g := gsh) (a := 855) (M := M) (p := y1) (k := y2) hO (by omega)
  rw [row_in hM] at e2
  exact ⟨sSaid r y1 y2, _, a_said (a := 1) hO (by omega) hC.2.1, e2, mrow_7, fun e h => s_said h, REL.ask hC hM hG⟩
theorem s_trace {y1 y2 : Int} {e : Nat} (h : sTrace r y1 y2 = .inl e) : e = 3 ∨ e = 2 := by
  unfold sTrace at h
  repeat' (split at h)
  all_goals (first | cases h | skip)
  all_goals (first | exact Or.inl rfl | exact Or.inr rfl | rfl)
theorem k_trace {y1 y2 : Int} (h : REL M K) : ∃ res M2, fX8_trace gsh 1 y1 y2 M = some res ∧ fX9_trace gsh 855 y1 y2 M = some (qWert res, M2) ∧ M2 855 7 = qThr 3 res ∧ (∀ e, res = .inl e → e = 3 ∨ e = 2) ∧ REL M2 K := by
  obtain ⟨r, n, kept, fl, sv, x, xn, ep, L, hC, hM, hG⟩ := h
  have hO := hC.1
  have hK := hG.1
  have e2 := b_trace (g := gsh) (a := 855) (M := M) (k := y1) (x := y2) hO
  rw [row_in hM] at e2
  exact ⟨sTrace r y1 y2, _, a_trace (a := 1) hO (by omega) hC.2.1, e2, mrow_7, fun e h => s_trace h, REL.ask hC hM hG⟩
theorem s_whyStuck {y1 : Int} {e : Nat} (h : sWhy r y1 = .inl e) : e = 3 := by
  unfold sWhy at h
  repeat' (split at h)
  all_goals (first | cases h | skip)
  all_goals (first | exact Or.inl rfl | exact Or.inr rfl | rfl)
theorem k_whyStuck {y1 : Int} (h : REL M K) : ∃ res M2, fX8_whyStuck gsh 1 y1 M = some res ∧ fX9_whyStuck gsh 855 y1 M = some (qWert res, M2) ∧ M2 855 7 = qThr 3 res ∧ (∀ e, res = .inl e → e = 3) ∧ REL M2 K := by
  obtain ⟨r, n, kept, fl, sv, x, xn, ep, L, hC, hM, hG⟩ := h
  have hO := hC.1
  have hK := hG.1
  have e2 := b_why (g := gsh) (a := 855) (M := M) (p := y1) hO
  rw [row_in hM] at e2
  exact ⟨sWhy r y1, _, a_why (a := 1) hO hC.2.1, e2, mrow_7, fun e h => s_whyStuck h, REL.ask hC hM hG⟩
theorem s_helpers {y1 : Int} {e : Nat} (h : sHelpers r y1 = .inl e) : e = 3 := by
  unfold sHelpers at h
  repeat' (split at h)
  all_goals (first | cases h | skip)
  all_goals (first | exact Or.inl rfl | exact Or.inr rfl | rfl)
theorem k_helpers {y1 : Int} (h : REL M K) : ∃ res M2, fX8_helpers gsh 1 y1 M = some res ∧ fX9_helpers gsh 855 y1 M = some (qWert res, M2) ∧ M2 855 7 = qThr 3 res ∧ (∀ e, res = .inl e → e = 3) ∧ REL M2 K := by
  obtain ⟨r, n, kept, fl, sv, x, xn, ep, L, hC, hM, hG⟩ := h
  have hO := hC.1
  have hK := hG.1
  have e2 := b_help (g := gsh) (a := 855) (M := M) (p := y1) hO
  rw [row_in hM] at e2
  exact ⟨sHelpers r y1, _, a_help (a := 1) hO hC.2.1, e2, mrow_7, fun e h => s_helpers h, REL.ask hC hM hG⟩
theorem k_stuck (h : REL M K) : ∃ v M2, fX8_stuck gsh 1 M = some v ∧ fX9_stuck gsh 855 M = some (v, M2) ∧ REL M2 K := by
  obtain ⟨r, n, kept, fl, sv, x, xn, ep, L, hC, hM, hG⟩ := h
  have hO := hC.1
  have hK := hG.1
  have e2 := b_stuck (g := gsh) (a := 855) (M := M) hO 
  rw [row_in hM] at e2
  exact ⟨sStuck r, _, a_stuck (a := 1) hO hC.2.1, e2, REL.ask hC hM hG⟩
theorem k_unfair (h : REL M K) : ∃ v M2, fX8_unfair gsh 1 M = some v ∧ fX9_unfair gsh 855 M = some (v, M2) ∧ REL M2 K := by
  obtain ⟨r, n, kept, fl, sv, x, xn, ep, L, hC, hM, hG⟩ := h
  have hO := hC.1
  have hK := hG.1
  have e2 := b_unf (g := gsh) (a := 855) (M := M) hO (by omega) 
  rw [row_in hM] at e2
  exact ⟨sUnfair r, _, a_unf (a := 1) hO (by omega) hC.2.1, e2, REL.ask hC hM hG⟩
theorem k_hungriest (h : REL M K) : ∃ v M2, fX8_hungriest gsh 1 M = some v ∧ fX9_hungriest gsh 855 M = some (v, M2) ∧ REL M2 K := by
  obtain ⟨r, n, kept, fl, sv, x, xn, ep, L, hC, hM, hG⟩ := h
  have hO := hC.1
  have hK := hG.1
  have e2 := b_hung (g := gsh) (a := 855) (M := M) hO 
  rw [row_in hM] at e2
  exact ⟨sHungriest r, _, a_hung (a := 1) hO hC.2.1, e2, REL.ask hC hM hG⟩
theorem k_waitShare (h : REL M K) : ∃ v M2, fX8_waitShare gsh 1 M = some v ∧ fX9_waitShare gsh 855 M = some (v, M2) ∧ REL M2 K := by
  obtain ⟨r, n, kept, fl, sv, x, xn, ep, L, hC, hM, hG⟩ := h
  have hO := hC.1
  have hK := hG.1
  have e2 := b_share (g := gsh) (a := 855) (M := M) hO (by omega)
  rw [row_in hM] at e2
  exact ⟨sShare r, _, a_share (a := 1) hO (by omega) hC.2.1, e2, REL.ask hC hM hG⟩
theorem k_fullness (h : REL M K) : ∃ v M2, fX8_fullness gsh 1 M = some v ∧ fX9_fullness gsh 855 M = some (v, M2) ∧ REL M2 K := by
  obtain ⟨r, n, kept, fl, sv, x, xn, ep, L, hC, hM, hG⟩ := h
  have hO := hC.1
  have e2 := b_full (g := gsh) (a := 855) (M := M) hO
  rw [row_in hM] at e2
  exact ⟨sFull r, _, a_full (a := 1) hO hC.2.1, e2, REL.ask hC hM hG⟩
theorem k_turnsLeft (h : REL M K) : ∃ v M1 M2, fX8_turnsLeft gsh 1 M = some (v, M1) ∧ fX9_turnsLeft gsh 855 M1 = some (v, M2) ∧ REL M2 K := by
  obtain ⟨r, n, kept, fl, sv, x, xn, ep, L, hC, hM, hG⟩ := h
  have hO := hC.1
  have hK := hG.1
  obtain ⟨M1, e1, F1⟩ := a_left (g := gsh) (a := 1) hO (by omega) hC.2.1
  obtain ⟨N, e2, v7, F2⟩ := b_left (g := gsh) (a := 855) (M := M1) gl1 gl3 hO (by omega)
  rw [row_in1 hM (F1 856 (by omega))] at e2
  exact ⟨sLeft r, M1, _, e1, e2, REL.try hC hM hG F1 F2⟩
theorem k_fairest (h : REL M K) : ∃ v M1 M2, fX8_fairest gsh 1 M = some (v, M1) ∧ fX9_fairest gsh 855 M1 = some (v, M2) ∧ REL M2 K := by
  obtain ⟨r, n, kept, fl, sv, x, xn, ep, L, hC, hM, hG⟩ := h
  have hO := hC.1
  have hK := hG.1
  obtain ⟨M1, e1, F1⟩ := a_fair (g := gsh) (a := 1) hO (by omega) hC.2.1
  obtain ⟨N, e2, v7, F2⟩ := b_fair (g := gsh) (a := 855) (M := M1) gl1 gl3 hO (by omega)
  rw [row_in1 hM (F1 856 (by omega))] at e2
  exact ⟨sFairest r, M1, _, e1, e2, REL.try hC hM hG F1 F2⟩
theorem s_wouldSay {y1 y2 : Int} {e : Nat} (h : sWSay r y1 y2 = .inl e) : e = 3 ∨ e = 2 := by
  unfold sWSay at h
  repeat' (split at h)
  all_goals (first | cases h | skip)
  all_goals (first | exact Or.inl rfl | exact Or.inr rfl | rfl)
theorem k_wouldSay {y1 y2 : Int} (h : REL M K) : ∃ res M1 M2, fX8_wouldSay gsh 1 y1 y2 M = some (res, M1) ∧ fX9_wouldSay gsh 855 y1 y2 M1 = some (qWert res, M2) ∧ M2 855 7 = qThr 3 res ∧ (∀ e, res = .inl e → e = 3 ∨ e = 2) ∧ REL M2 K := by
  obtain ⟨r, n, kept, fl, sv, x, xn, ep, L, hC, hM, hG⟩ := h
  have hO := hC.1
  have hK := hG.1
  obtain ⟨M1, e1, F1⟩ := a_wsay (g := gsh) (a := 1) (p := y1) (n := y2) hO (by omega) hC.2.1
  obtain ⟨N, e2, v7, F2⟩ := b_wsay (g := gsh) (a := 855) (M := M1) (p := y1) (n := y2) gl1 gl3 hO (by omega)
  rw [row_in1 hM (F1 856 (by omega))] at e2
  exact ⟨sWSay r y1 y2, M1, _, e1, e2, by rw [mrow_ne (by omega)]; exact v7, fun e h => s_wouldSay h, REL.try hC hM hG F1 F2⟩
theorem s_wouldFail {y1 : Int} {e : Nat} (h : sWFail r y1 = .inl e) : e = 3 := by
  unfold sWFail at h
  repeat' (split at h)
  all_goals (first | cases h | skip)
  all_goals (first | exact Or.inl rfl | exact Or.inr rfl | rfl)
theorem k_wouldFail {y1 : Int} (h : REL M K) : ∃ res M1 M2, fX8_wouldFail gsh 1 y1 M = some (res, M1) ∧ fX9_wouldFail gsh 855 y1 M1 = some (qWert res, M2) ∧ M2 855 7 = qThr 3 res ∧ (∀ e, res = .inl e → e = 3) ∧ REL M2 K := by
  obtain ⟨r, n, kept, fl, sv, x, xn, ep, L, hC, hM, hG⟩ := h
  have hO := hC.1
  have hK := hG.1
  obtain ⟨M1, e1, F1⟩ := a_wfail (g := gsh) (a := 1) (p := y1) hO (by omega) hC.2.1
  obtain ⟨N, e2, v7, F2⟩ := b_wfail (g := gsh) (a := 855) (M := M1) (p := y1) gl1 gl3 hO (by omega)
  rw [row_in1 hM (F1 856 (by omega))] at e2
  exact ⟨sWFail r y1, M1, _, e1, e2, by rw [mrow_ne (by omega)]; exact v7, fun e h => s_wouldFail h, REL.try hC hM hG F1 F2⟩
theorem s_bestSlot {y1 : Int} {e : Nat} (h : sBest r y1 = .inl e) : e = 3 := by
  unfold sBest at h
  repeat' (split at h)
  all_goals (first | cases h | skip)
  all_goals (first | exact Or.inl rfl | exact Or.inr rfl | rfl)
theorem k_bestSlot {y1 : Int} (h : REL M K) : ∃ res M1 M2, fX8_bestSlot gsh 1 y1 M = some (res, M1) ∧ fX9_bestSlot gsh 855 y1 M1 = some (qWert res, M2) ∧ M2 855 7 = qThr 3 res ∧ (∀ e, res = .inl e → e = 3) ∧ REL M2 K := by
  obtain ⟨r, n, kept, fl, sv, x, xn, ep, L, hC, hM, hG⟩ := h
  have hO := hC.1
  have hK := hG.1
  obtain ⟨M1, e1, F1⟩ := a_best (g := gsh) (a := 1) (p := y1) hO (by omega) hC.2.1
  obtain ⟨N, e2, v7, F2⟩ := b_best (g := gsh) (a := 855) (M := M1) (p := y1) gl1 gl3 hO (by omega)
  rw [row_in1 hM (F1 856 (by omega))] at e2
  exact ⟨sBest r y1, M1, _, e1, e2, by rw [mrow_ne (by omega)]; exact v7, fun e h => s_bestSlot h, REL.try hC hM hG F1 F2⟩
theorem s_run {y1 : Int} {e : Nat} (h : (sRun r y1).1 = .inl e) : e = 2 := by
  unfold sRun at h
  repeat' (split at h)
  all_goals (first | cases h | skip)
  all_goals (first | exact Or.inl rfl | exact Or.inr rfl | rfl)
theorem k_run {y1 : Int} (h : REL M K) (hK2 : K + 12000 ≤ 70000000) : ∃ res M1 M2, fX8_run gsh 1 y1 M = some (res, M1) ∧ fX9_run gsh 855 y1 M1 = some (qWert res, M2) ∧ M2 855 7 = qThr 2 res ∧ (∀ e, res = .inl e → e = 2) ∧ REL M2 (K + 12000) := by
  obtain ⟨r, n, kept, fl, sv, x, xn, ep, L, hC, hM, hG⟩ := h
  have hO := hC.1
  have hK := hG.1
  obtain ⟨M1, e1, D1, O1, K1, F1⟩ := a_run (g := gsh) (a := 1) (x := y1) hO (by omega) hC.2.1 hC.2.2.1 hG.2.1
  have hKM : KM M1 855 n kept := hM.2.1.frame (by rw [F1 855 (by omega)]) (F1 _ (by omega))
  obtain ⟨N, e2, K2, v7, F2⟩ := b_run (g := gsh) (a := 855) (M := M1) (r := r) (x := y1) gl1 gl4 hO (by omega) hKM
  rw [row_in1 hM (F1 856 (by omega))] at e2
  exact ⟨(sRun r y1).1, M1, _, e1, e2, by rw [mrow_ne (by omega)]; exact v7, fun e h => s_run h, REL.chg hC hM hG (by omega) hK2 (qN_rng hG.2.1) O1 D1 K1 F1 K2 F2⟩
theorem s_allow {y1 y2 y3 : Int} {e : Nat} (h : (sAllow r y1 y2 y3).1 = .inl e) : e = 3 := by
  unfold sAllow at h
  repeat' (split at h)
  all_goals (first | cases h | skip)
  all_goals (first | exact Or.inl rfl | exact Or.inr rfl | rfl)
theorem k_allow {y1 y2 y3 : Int} (h : REL M K) (hK2 : K + 12000 ≤ 70000000) : ∃ res M1 M2, fX8_allow gsh 1 y1 y2 y3 M = some (res, M1) ∧ fX9_allow gsh 855 y1 y2 y3 M1 = some (qWert res, M2) ∧ M2 855 7 = qThr 3 res ∧ (∀ e, res = .inl e → e = 3) ∧ REL M2 (K + 12000) := by
  obtain ⟨r, n, kept, fl, sv, x, xn, ep, L, hC, hM, hG⟩ := h
  have hO := hC.1
  have hK := hG.1
  obtain ⟨M1, e1, D1, O1, K1, F1⟩ := a_allow (g := gsh) (a := 1) (p := y1) (k := y2) (x := y3) hO hC.2.1 hC.2.2.1 hG.2.1
  have hKM : KM M1 855 n kept := hM.2.1.frame (by rw [F1 855 (by omega)]) (F1 _ (by omega))
  obtain ⟨N, e2, K2, v7, F2⟩ := b_allow (g := gsh) (a := 855) (M := M1) (r := r) (p := y1) (k := y2) (x := y3) gl1 gl4 hO hKM
  rw [row_in1 hM (F1 856 (by omega))] at e2
  exact ⟨(sAllow r y1 y2 y3).1, M1, _, e1, e2, by rw [mrow_ne (by omega)]; exact v7, fun e h => s_allow h, REL.chg hC hM hG (by omega) hK2 (qN_rng hG.2.1) (O1.mono (by omega)) (D1.mono (by omega)) (K1.frame (fun _ _ _ => rfl) (by omega)) F1 K2 F2⟩
theorem s_setTurn {y1 y2 : Int} {e : Nat} (h : (sSetTurn r y1 y2).1 = .inl e) : e = 3 ∨ e = 2 := by
  unfold sSetTurn at h
  repeat' (split at h)
  all_goals (first | cases h | skip)
  all_goals (first | exact Or.inl rfl | exact Or.inr rfl | rfl)
theorem k_setTurn {y1 y2 : Int} (h : REL M K) (hK2 : K + 12000 ≤ 70000000) : ∃ res M1 M2, fX8_setTurn gsh 1 y1 y2 M = some (res, M1) ∧ fX9_setTurn gsh 855 y1 y2 M1 = some (qWert res, M2) ∧ M2 855 7 = qThr 3 res ∧ (∀ e, res = .inl e → e = 3 ∨ e = 2) ∧ REL M2 (K + 12000) := by
  obtain ⟨r, n, kept, fl, sv, x, xn, ep, L, hC, hM, hG⟩ := h
  have hO := hC.1
  have hK := hG.1
  obtain ⟨M1, e1, D1, O1, K1, F1⟩ := a_setTurn (g := gsh) (a := 1) (p := y1) (x := y2) hO hC.2.1 hC.2.2.1 hG.2.1
  have hKM : KM M1 855 n kept := hM.2.1.frame (by rw [F1 855 (by omega)]) (F1 _ (by omega))
  obtain ⟨N, e2, K2, v7, F2⟩ := b_setTurn (g := gsh) (a := 855) (M := M1) (r := r) (p := y1) (x := y2) gl1 gl4 hO hKM
  rw [row_in1 hM (F1 856 (by omega))] at e2
  exact ⟨(sSetTurn r y1 y2).1, M1, _, e1, e2, by rw [mrow_ne (by omega)]; exact v7, fun e h => s_setTurn h, REL.chg hC hM hG (by omega) hK2 (qN_rng hG.2.1) (O1.mono (by omega)) (D1.mono (by omega)) (K1.frame (fun _ _ _ => rfl) (by omega)) F1 K2 F2⟩
theorem s_put {y1 y2 : Int} {e : Nat} (h : (sPut r y1 y2).1 = .inl e) : e = 3 ∨ e = 2 := by
  unfold sPut at h
  repeat' (split at h)
  all_goals (first | cases h | skip)
  all_goals (first | exact Or.inl rfl | exact Or.inr rfl | rfl)
theorem k_put {y1 y2 : Int} (h : REL M K) (hK2 : K + 12000 ≤ 70000000) : ∃ res M1 M2, fX8_put gsh 1 y1 y2 M = some (res, M1) ∧ fX9_put gsh 855 y1 y2 M1 = some (qWert res, M2) ∧ M2 855 7 = qThr 3 res ∧ (∀ e, res = .inl e → e = 3 ∨ e = 2) ∧ REL M2 (K + 12000) := by
  obtain ⟨r, n, kept, fl, sv, x, xn, ep, L, hC, hM, hG⟩ := h
  have hO := hC.1
  have hK := hG.1
  obtain ⟨M1, e1, D1, O1, K1, F1⟩ := a_put (g := gsh) (a := 1) (s := y1) (x := y2) hO hC.2.1 hC.2.2.1 hG.2.1
  have hKM : KM M1 855 n kept := hM.2.1.frame (by rw [F1 855 (by omega)]) (F1 _ (by omega))
  obtain ⟨N, e2, K2, v7, F2⟩ := b_put (g := gsh) (a := 855) (M := M1) (r := r) (s := y1) (x := y2) gl1 gl4 hO hKM
  rw [row_in1 hM (F1 856 (by omega))] at e2
  exact ⟨(sPut r y1 y2).1, M1, _, e1, e2, by rw [mrow_ne (by omega)]; exact v7, fun e h => s_put h, REL.chg hC hM hG (by omega) hK2 (qN_rng hG.2.1) (O1.mono (by omega)) (D1.mono (by omega)) (K1.frame (fun _ _ _ => rfl) (by omega)) F1 K2 F2⟩
theorem s_hand {y1 y2 : Int} {e : Nat} (h : (sHand r y1 y2).1 = .inl e) : e = 3 := by
  unfold sHand at h
  repeat' (split at h)
  all_goals (first | cases h | skip)
  all_goals (first | exact Or.inl rfl | exact Or.inr rfl | rfl)
theorem k_hand {y1 y2 : Int} (h : REL M K) (hK2 : K + 12000 ≤ 70000000) : ∃ res M1 M2, fX8_hand gsh 1 y1 y2 M = some (res, M1) ∧ fX9_hand gsh 855 y1 y2 M1 = some (qWert res, M2) ∧ M2 855 7 = qThr 3 res ∧ (∀ e, res = .inl e → e = 3) ∧ REL M2 (K + 12000) := by
  obtain ⟨r, n, kept, fl, sv, x, xn, ep, L, hC, hM, hG⟩ := h
  have hO := hC.1
  have hK := hG.1
  obtain ⟨M1, e1, D1, O1, K1, F1⟩ := a_hand (g := gsh) (a := 1) (k := y1) (p := y2) hO hC.2.1 hC.2.2.1 hG.2.1
  have hKM : KM M1 855 n kept := hM.2.1.frame (by rw [F1 855 (by omega)]) (F1 _ (by omega))
  obtain ⟨N, e2, K2, v7, F2⟩ := b_hand (g := gsh) (a := 855) (M := M1) (r := r) (k := y1) (p := y2) gl1 gl4 hO hKM
  rw [row_in1 hM (F1 856 (by omega))] at e2
  exact ⟨(sHand r y1 y2).1, M1, _, e1, e2, by rw [mrow_ne (by omega)]; exact v7, fun e h => s_hand h, REL.chg hC hM hG (by omega) hK2 (qN_rng hG.2.1) (O1.mono (by omega)) (D1.mono (by omega)) (K1.frame (fun _ _ _ => rfl) (by omega)) F1 K2 F2⟩
theorem s_kill {y1 : Int} {e : Nat} (h : (sKill r y1).1 = .inl e) : e = 3 := by
  unfold sKill at h
  repeat' (split at h)
  all_goals (first | cases h | skip)
  all_goals (first | exact Or.inl rfl | exact Or.inr rfl | rfl)
theorem k_kill {y1 : Int} (h : REL M K) (hK2 : K + 12000 ≤ 70000000) : ∃ res M1 M2, fX8_kill gsh 1 y1 M = some (res, M1) ∧ fX9_kill gsh 855 y1 M1 = some (qWert res, M2) ∧ M2 855 7 = qThr 3 res ∧ (∀ e, res = .inl e → e = 3) ∧ REL M2 (K + 12000) := by
  obtain ⟨r, n, kept, fl, sv, x, xn, ep, L, hC, hM, hG⟩ := h
  have hO := hC.1
  have hK := hG.1
  obtain ⟨M1, e1, D1, O1, K1, F1⟩ := a_kill (g := gsh) (a := 1) (p := y1) hO hC.2.1 hC.2.2.1 hG.2.1
  have hKM : KM M1 855 n kept := hM.2.1.frame (by rw [F1 855 (by omega)]) (F1 _ (by omega))
  obtain ⟨N, e2, K2, v7, F2⟩ := b_kill (g := gsh) (a := 855) (M := M1) (r := r) (p := y1) gl1 gl4 hO hKM
  rw [row_in1 hM (F1 856 (by omega))] at e2
  exact ⟨(sKill r y1).1, M1, _, e1, e2, by rw [mrow_ne (by omega)]; exact v7, fun e h => s_kill h, REL.chg hC hM hG (by omega) hK2 (qN_rng hG.2.1) (O1.mono (by omega)) (D1.mono (by omega)) (K1.frame (fun _ _ _ => rfl) (by omega)) F1 K2 F2⟩
theorem s_wake {y1 : Int} {e : Nat} (h : (sWake r y1).1 = .inl e) : e = 3 := by
  unfold sWake at h
  repeat' (split at h)
  all_goals (first | cases h | skip)
  all_goals (first | exact Or.inl rfl | exact Or.inr rfl | rfl)
theorem k_wake {y1 : Int} (h : REL M K) (hK2 : K + 12000 ≤ 70000000) : ∃ res M1 M2, fX8_wake gsh 1 y1 M = some (res, M1) ∧ fX9_wake gsh 855 y1 M1 = some (qWert res, M2) ∧ M2 855 7 = qThr 3 res ∧ (∀ e, res = .inl e → e = 3) ∧ REL M2 (K + 12000) := by
  obtain ⟨r, n, kept, fl, sv, x, xn, ep, L, hC, hM, hG⟩ := h
  have hO := hC.1
  have hK := hG.1
  obtain ⟨M1, e1, D1, O1, K1, F1⟩ := a_wake (g := gsh) (a := 1) (p := y1) hO hC.2.1 hC.2.2.1 hG.2.1
  have hKM : KM M1 855 n kept := hM.2.1.frame (by rw [F1 855 (by omega)]) (F1 _ (by omega))
  obtain ⟨N, e2, K2, v7, F2⟩ := b_wake (g := gsh) (a := 855) (M := M1) (r := r) (p := y1) gl1 gl4 hO hKM
  rw [row_in1 hM (F1 856 (by omega))] at e2
  exact ⟨(sWake r y1).1, M1, _, e1, e2, by rw [mrow_ne (by omega)]; exact v7, fun e h => s_wake h, REL.chg hC hM hG (by omega) hK2 (qN_rng hG.2.1) (O1.mono (by omega)) (D1.mono (by omega)) (K1.frame (fun _ _ _ => rfl) (by omega)) F1 K2 F2⟩
end Rel
