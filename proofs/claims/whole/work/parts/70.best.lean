/-! PURE: bestSlot -/
def qAllow (r : gRow) (p k : Int) : gRow := rsp r p 5 (gor (rp r p 5) (gshl 1 k))
def qEnded (r : gRow) (p k : Int) : Int := qCountOf (qGoes (if k = -1 then r else qAllow r p k) 300).2 1
def sBestN (r : gRow) (p : Int) : Nat → Int → Int → Int → Int
  | 0, b, _, _ => b
  | n + 1, b, m, k => if gand (gshr (rp r p 5) k) 1 = 1 then sBestN r p n b m (k + 1) else if m < qEnded r p k then sBestN r p n k (qEnded r p k) (k + 1) else sBestN r p n b m (k + 1)
def sBest (r : gRow) (p : Int) : Nat ⊕ Int := if 0 ≤ p ∧ p < r 1 then .inr (sBestN r p (r 0).toNat (-1) (qEnded r p (-1)) 0) else .inl 3
section Best
variable {M M' : gMem} {d a : Nat} {r : gRow} {K K' n : Int} {g : Nat → Nat}
theorem qAllow_val (hO : qOK r K) {p k : Int} (hp : 0 ≤ p ∧ p < r 1) (hk : 0 ≤ k ∧ k < 4) : qVal K 5 (gor (rp r p 5) (gshl 1 k)) := by
  have h5 := (hO.p hp).2.2.2.2.2.1
  have := qMask_rng (x := 1) h5 hk
  unfold qMask at this
  rw [if_neg (by omega)] at this
  unfold qVal
  omega
theorem qAllow_facts (hO : qOK r K) {p k : Int} (hp : 0 ≤ p ∧ p < r 1) (hk : 0 ≤ k ∧ k < 4) : qOK (qAllow r p k) K ∧ ∀ j : Nat, 1190 ≤ j → (qAllow r p k) j = r j := by
  have h1 := hO.2.1
  exact ⟨qOK_rsp hO (Int.le_refl K) hp (qAllow_val hO hp hk), fun j hj => rsp_top (by omega) (by omega) hj⟩
theorem c_trySlot (hO : qOK r K) (hD : DR M (a + 1) r K) {p k : Int} (hp : 0 ≤ p ∧ p < r 1) (hk : 0 ≤ k ∧ k < 4) : ∃ M', fX8_trySlot g a p k M = some M' ∧ DR M' (a + 66) (qAllow r p k) K ∧ gFc a M M' := by
  have h1 := hO.2.1
  obtain ⟨M1, e1, D1, -, F1⟩ := c_try (g := g) hO hD
  have hv := qAllow_val hO hp hk
  have D5 := DR_p (k := 5) (v := gor (rp r p 5) (gshl 1 k)) hO D1 hp (by omega) (Int.le_refl K)
  have F : gFr (a + 66) M1 (gup M1 (a + 66 + 1 + (8 + 4 * p.toNat)) 6 (gor (rp r p 5) (gshl 1 k))) := gFr.up (by omega)
  unfold fX8_trySlot
  rw [e1, Option.bind_some, c_procAt_in D1.1 h1 hp, Option.bind_some, if_neg (by omega), gst_eq, (D1.2.1 p hp.1 hp.2).f.2.2.2.2.2.1]
  exact ⟨_, rfl, D5, (F1.trans F).gFc⟩
theorem c_best_lp (hO : qOK r K) (hK : K ≤ 80000000) {p : Int} (hp : 0 ≤ p ∧ p < r 1) : ∀ (n : Nat) (b m k : Int) (M : gMem) (fu : Nat), DR M (a + 1) r K → 0 ≤ k → k + n = r 0 → n < fu → ∃ M', fX8_bestSlot_43 g fu a p (a + 1 + 1 + (8 + 4 * p.toNat)) b m k M = some (.inr (sBestN r p n b m k), M') ∧ gFc a M M' := by
  intro n
  induction n with
  | zero =>
    intro b m k M fu hD h0 hs hf
    obtain ⟨fu, rfl⟩ := fuS hf
    unfold fX8_bestSlot_43 sBestN
    rw [hD.1.1, if_pos (by omega)]
    exact ⟨M, rfl, gFc.rfl'⟩
  | succ n ih =>
    intro b m k M fu hD h0 hs hf
    obtain ⟨fu, rfl⟩ := fuS hf
    have hr0 := hO.1
    unfold fX8_bestSlot_43 sBestN fX8_bestSlot_106
    rw [hD.1.1, if_neg (by omega), c_mayUse (hD.2.1 p hp.1 hp.2), Option.bind_some]
    simp only [gst_eq]
    rw [gwi_eq (by omega) (by omega)]
    by_cases hm : gand (gshr (rp r p 5) k) 1 = 1
    · rw [if_pos hm, if_neg (by omega), if_pos hm]
      exact ih b m (k + 1) M fu hD (by omega) (by omega) (by omega)
    · rw [if_neg hm, if_pos rfl, if_neg hm]
      obtain ⟨A1, A2⟩ := qAllow_facts hO hp (k := k) (by omega)
      obtain ⟨M1, e1, D1, F1⟩ := c_trySlot (g := g) hO hD hp (k := k) (by omega)
      obtain ⟨M2, e2, D2, O2, F2⟩ := c_advance (g := g) (r := qAllow r p k) (n := 300) A1 (by omega) D1 (by omega)
      have hD2 := hD.off hO (F1.trans F2.gFc)
      have ec : fX0_countInState g (a + 66) 1 M2 = some (qEnded r p k) := by
        unfold qEnded
        rw [if_neg (by omega)]
        exact c_countOf O2.2.1 D2.1 D2.2.1
      rw [e1, Option.bind_some, e2, Option.bind_some]
      show ∃ M', (fX0_countInState g (a + 66) 1 M2).bind _ = _ ∧ _
      rw [ec, Option.bind_some]
      by_cases hu : m < qEnded r p k
      · rw [if_neg (by omega), if_pos hu]
        obtain ⟨M3, e3, F3⟩ := ih k (qEnded r p k) (k + 1) M2 fu hD2 (by omega) (by omega) (by omega)
        exact ⟨M3, e3, (F1.trans F2.gFc).trans F3⟩
      · rw [if_pos (by omega), if_neg hu]
        obtain ⟨M3, e3, F3⟩ := ih b m (k + 1) M2 fu hD2 (by omega) (by omega) (by omega)
        exact ⟨M3, e3, (F1.trans F2.gFc).trans F3⟩
theorem a_best (hO : qOK r K) (hK : K ≤ 80000000) (hD : DR M (a + 1) r K) {p : Int} : ∃ M', fX8_bestSlot g a p M = some (sBest r p, M') ∧ gFc a M M' := by
  have h0 := hO.1
  unfold fX8_bestSlot sBest
  rw [c_exP hO hD]
  by_cases hp : 0 ≤ p ∧ p < r 1
  · obtain ⟨M1, e1, D1, -, F1⟩ := c_try (g := g) hO hD
    obtain ⟨M2, e2, D2, O2, F2⟩ := c_advance (g := g) (n := 300) hO (by omega) D1 (by omega)
    have hD2 := hD.off hO (F1.gFc.trans F2.gFc)
    have ec : fX0_countInState g (a + 66) 1 M2 = some (qEnded r p (-1)) := by
      unfold qEnded
      rw [if_pos rfl]
      exact c_countOf O2.2.1 D2.1 D2.2.1
    rw [if_pos hp, if_pos hp, gtry_r, e1, Option.bind_some, e2, Option.bind_some, gst_eq]
    show ∃ M', (fX0_countInState g (a + 66) 1 M2).bind _ = _ ∧ _
    rw [ec, Option.bind_some]
    obtain ⟨M3, e3, F3⟩ := c_best_lp (g := g) hO hK hp (r 0).toNat (-1) (qEnded r p (-1)) 0 M2 gF hD2 (by omega) (by omega) (by unfold gF; omega)
    exact ⟨M3, e3, (F1.gFc.trans F2.gFc).trans F3⟩
  · rw [if_neg hp, if_neg hp]
    exact ⟨M, rfl, gFc.rfl'⟩
theorem m_ended (l1 : g (a + 1) / 16 - 1 = 1190) (l3 : g (a + 3) / 16 - 1 = 1190) (hO : qOK r K) (hK : K ≤ 80000000) {p k : Int} (hp : 0 ≤ p ∧ p < r 1) (hk : k = -1 ∨ (0 ≤ k ∧ k < 4)) : ∃ N, fX9_endedWith g a p k (mrow M (a + 1) r) = some (qEnded r p k, mrow N (a + 1) r) ∧ N a 7 = M a 7 ∧ gFt a M N := by
  have h1 := hO.2.1
  obtain ⟨N1, e1, T1, F1, E1⟩ := m_aside (g := g) (r := r) (M := M) l1 l3
  unfold fX9_endedWith qEnded
  rw [e1, Option.bind_some]
  have Z : ∀ r' : gRow, qOK r' K → (∀ j : Nat, 1190 ≤ j → r' j = r j) → ∃ N, fX9_endedWith_25 g a (mrow N1 (a + 1) r') = some (qCountOf (qGoes r' 300).2 1, mrow N (a + 1) r) ∧ N a 7 = M a 7 ∧ gFt a M N := by
    intro r' O' hj
    obtain ⟨O2, -, -, -, B2⟩ := qGoes_facts O' (n := 300) (by omega)
    unfold fX9_endedWith_25
    rw [m_goesOn O' (by omega) (by omega), Option.bind_some]
    show ∃ N, (gst (gup (mrow N1 (a + 1) (qGoes r' 300).2) a 17 (qGoes r' 300).1) _) = _ ∧ _
    rw [gst_eq, mrow_a17, m_countOf O2.2.1, Option.bind_some, m_back l1 l3 T1.a17 (fun j q => (B2 j q).trans (hj j q)), Option.bind_some]
    exact ⟨_, rfl, by rw [gup_miss (by omega), E1], F1.trans gFt.a17⟩
  by_cases h : k = -1
  · rw [if_pos h, if_pos h]
    exact Z r hO (fun _ _ => rfl)
  · obtain ⟨A1, A2⟩ := qAllow_facts hO hp (k := k) (by omega)
    rw [if_neg h, if_neg h, m_of (by omega) (by omega), Option.bind_some, m_sets (by omega) (by omega), Option.bind_some]
    exact Z (qAllow r p k) A1 A2
theorem m_best_lp (l1 : g (a + 1) / 16 - 1 = 1190) (l3 : g (a + 3) / 16 - 1 = 1190) (hO : qOK r K) (hK : K ≤ 80000000) {p : Int} (hp : 0 ≤ p ∧ p < r 1) : ∀ (n : Nat) (b m k : Int) (M : gMem) (fu : Nat), 0 ≤ k → k + n = r 0 → n < fu → ∃ N, fX9_bestSlot_38 g fu a p b m k (mrow M (a + 1) r) = some (sBestN r p n b m k, mrow N (a + 1) r) ∧ N a 7 = M a 7 ∧ gFt a M N := by
  have h1 := hO.2.1
  intro n
  induction n with
  | zero =>
    intro b m k M fu h0 hs hf
    obtain ⟨fu, rfl⟩ := fuS hf
    unfold fX9_bestSlot_38 sBestN
    rw [mrow_at, tn0, if_pos (by omega), if_pos (by omega)]
    exact ⟨M, rfl, rfl, gFt.rfl'⟩
  | succ n ih =>
    intro b m k M fu h0 hs hf
    obtain ⟨fu, rfl⟩ := fuS hf
    have hr0 := hO.1
    unfold fX9_bestSlot_38 sBestN fX9_bestSlot_86
    rw [mrow_at, tn0, if_pos (by omega), if_neg (by omega), m_mayUse (by omega), Option.bind_some]
    simp only [gst_eq]
    rw [gwi_eq (by omega) (by omega)]
    by_cases hm : gand (gshr (rp r p 5) k) 1 = 1
    · rw [if_pos hm, if_neg (by omega), if_pos hm]
      exact ih b m (k + 1) M fu (by omega) (by omega) (by omega)
    · obtain ⟨N1, e1, v1, F1⟩ := m_ended (g := g) (M := M) l1 l3 hO hK hp (k := k) (by omega)
      rw [if_neg hm, if_pos rfl, if_neg hm, e1, Option.bind_some]
      by_cases hu : m < qEnded r p k
      · rw [if_pos hu, if_pos hu]
        obtain ⟨N3, e3, v3, F3⟩ := ih k (qEnded r p k) (k + 1) N1 fu (by omega) (by omega) (by omega)
        exact ⟨N3, e3, v3.trans v1, F1.trans F3⟩
      · rw [if_neg hu, if_neg hu]
        obtain ⟨N3, e3, v3, F3⟩ := ih b m (k + 1) N1 fu (by omega) (by omega) (by omega)
        exact ⟨N3, e3, v3.trans v1, F1.trans F3⟩
theorem b_best (l1 : g (a + 1) / 16 - 1 = 1190) (l3 : g (a + 3) / 16 - 1 = 1190) (hO : qOK r K) (hK : K ≤ 80000000) {p : Int} : ∃ N, fX9_bestSlot g a p (mrow M (a + 1) r) = some (qWert (sBest r p), mrow N (a + 1) r) ∧ N a 7 = qThr 3 (sBest r p) ∧ gFt a M N := by
  have h0 := hO.1
  have h1 := hO.2.1
  unfold fX9_bestSlot sBest fX9_bestSlot_14
  rw [m_isP h1, Option.bind_some]
  by_cases hp : 0 ≤ p ∧ p < r 1
  · obtain ⟨N1, e1, v1, F1⟩ := m_ended (g := g) (M := gup M a 7 0) l1 l3 hO hK hp (k := -1) (Or.inl rfl)
    obtain ⟨N3, e3, v3, F3⟩ := m_best_lp (g := g) l1 l3 hO hK hp (r 0).toNat (-1) (qEnded r p (-1)) 0 N1 gF (by omega) (by omega) (by unfold gF; omega)
    rw [if_neg (by rw [qB_t hp]; omega), if_pos hp, gst_eq, mrow_a7, mrow_7, if_pos (Int.le_refl 0), gst_eq, e1, Option.bind_some, gst_eq]
    exact ⟨N3, e3, by rw [v3, v1]; exact gup_hit rfl rfl, (gFt.a7.trans F1).trans F3⟩
  · rw [if_pos (qB_f hp), if_neg hp, gst_eq, mrow_a7, mrow_7, if_neg (by omega)]
    exact ⟨_, rfl, gup_hit rfl rfl, gFt.a7⟩
end Best
