/-! PURE: calls that change the desk, the reference's side -/
section Change2
variable {M M' : gMem} {a : Nat} {r : gRow} {K K' n : Int} {kept : Nat → gRow} {g : Nat → Nat}
theorem gFm.rfl' : gFm a M M := ⟨fun _ _ _ _ => rfl, fun _ _ _ => rfl⟩
theorem gFm.trans {M'' : gMem} (h : gFm a M M') (h' : gFm a M' M'') : gFm a M M'' := ⟨fun x q1 q2 q3 => (h'.1 x q1 q2 q3).trans (h.1 x q1 q2 q3), fun j q1 q2 => (h'.2 j q1 q2).trans (h.2 j q1 q2)⟩
theorem gFm.a7 {v : Int} : gFm a M (gup M a 7 v) := ⟨fun x q1 _ _ => gup_row q1, fun j _ q2 => gup_miss (fun z => q2 z.2)⟩
theorem KM.a7 {v : Int} (hK : KM M a n kept) : KM (gup M a 7 v) a n kept := by
  obtain ⟨k1, k2, k3⟩ := hK
  exact ⟨by rw [gup_miss (by omega)]; exact k1, k2, fun b hb j hj => by rw [gup_row (by omega)]; exact k3 b hb j hj⟩
theorem m_keep (l1 : g (a + 1) / 16 - 1 = 1190) (l4 : g (a + 4) / 16 - 1 = 9520) (hK : KM M a n kept) : ∃ N, fX9_keeps g a (a + 1) (mrow M (a + 1) r) = some (mrow N (a + 1) r) ∧ KM N a (gmin (n + 1) 8) (qKeep r kept) ∧ gFm a M N ∧ N a 7 = M a 7 := by
  have hK' : KM (mrow M (a + 1) r) a n kept := by
    obtain ⟨k1, k2, k3⟩ := hK
    exact ⟨by rw [mrow_ne (by omega)]; exact k1, k2, fun b hb j hj => by rw [mrow_ne (by omega)]; exact k3 b hb j hj⟩
  obtain ⟨N, e1, K1, F1, F2⟩ := m_keeps (g := g) l1 l4 hK'
  rw [mrow_at] at K1
  have hN : mrow N (a + 1) r = N := by
    have : N (a + 1) = r := by rw [F1 (a + 1) (by omega) (by omega), mrow_at]
    rw [← this]; exact mrow_self N (a + 1)
  refine ⟨N, by rw [hN]; exact e1, K1, ⟨fun x q1 q2 q3 => by rw [F1 x q1 q3, mrow_ne q2], fun j q1 q2 => by rw [F2 j q1, mrow_ne (by omega)]⟩, by rw [F2 7 (by omega), mrow_ne (by omega)]⟩
theorem b_setTurn (l1 : g (a + 1) / 16 - 1 = 1190) (l4 : g (a + 4) / 16 - 1 = 9520) (hO : qOK r K) (hK : KM M a n kept) {p x : Int} : ∃ N, fX9_setTurn g a p x (mrow M (a + 1) r) = some (qWert (sSetTurn r p x).1, mrow N (a + 1) (sSetTurn r p x).2.2) ∧ KM N a (qN (sSetTurn r p x).2.1 n) (qK (sSetTurn r p x).2.1 r kept) ∧ N a 7 = qThr 3 (sSetTurn r p x).1 ∧ gFm a M N := by
  have h1 := hO.2.1
  unfold fX9_setTurn sSetTurn
  rw [m_isP h1, Option.bind_some]
  unfold fX9_setTurn_28
  by_cases hp : 0 ≤ p ∧ p < r 1
  · rw [if_neg (by rw [qB_t hp]; omega), m_isIn, Option.bind_some, if_pos hp]
    by_cases hx : 1 ≤ x ∧ x ≤ 9
    · obtain ⟨N, e1, K1, F1, v7⟩ := m_keep (g := g) (r := r) l1 l4 (hK.a7 (v := 0))
      rw [if_neg (by rw [qB_t hx]; omega), if_pos hx, gst_eq, mrow_a7, mrow_7, if_pos (Int.le_refl 0), e1, Option.bind_some, m_of (by omega) (by omega), Option.bind_some, m_sets (by omega) (by omega)]
      exact ⟨N, rfl, K1, v7.trans (gup_hit rfl rfl), gFm.a7.trans F1⟩
    · rw [if_pos (qB_f hx), if_neg hx, gst_eq, mrow_a7, mrow_7, if_neg (by omega)]
      exact ⟨_, rfl, hK.a7, gup_hit rfl rfl, gFm.a7⟩
  · rw [if_pos (qB_f hp), if_neg hp, gst_eq, mrow_a7, mrow_7, if_neg (by omega)]
    exact ⟨_, rfl, hK.a7, gup_hit rfl rfl, gFm.a7⟩
theorem b_wake (l1 : g (a + 1) / 16 - 1 = 1190) (l4 : g (a + 4) / 16 - 1 = 9520) (hO : qOK r K) (hK : KM M a n kept) {p : Int} : ∃ N, fX9_wake g a p (mrow M (a + 1) r) = some (qWert (sWake r p).1, mrow N (a + 1) (sWake r p).2.2) ∧ KM N a (qN (sWake r p).2.1 n) (qK (sWake r p).2.1 r kept) ∧ N a 7 = qThr 3 (sWake r p).1 ∧ gFm a M N := by
  have h1 := hO.2.1
  unfold fX9_wake sWake
  rw [m_isP h1, Option.bind_some]
  unfold fX9_wake_14
  by_cases hp : 0 ≤ p ∧ p < r 1
  · rw [if_neg (by rw [qB_t hp]; omega), if_pos hp, gst_eq, mrow_a7, mrow_7, if_pos (Int.le_refl 0), m_isReady (by omega), Option.bind_some]
    by_cases h0 : rp r p 0 = 0
    · rw [if_neg (by rw [qB_t h0]; omega), if_pos h0]
      exact ⟨_, rfl, hK.a7, gup_hit rfl rfl, gFm.a7⟩
    · obtain ⟨N, e1, K1, F1, v7⟩ := m_keep (g := g) (r := r) l1 l4 (hK.a7 (v := 0))
      rw [if_pos (qB_f h0), if_neg h0, e1, Option.bind_some, m_of (by omega) (by omega), Option.bind_some, m_sets (by omega) (by omega), Option.bind_some, m_sets (by omega) (by omega), Option.bind_some, m_sets (by omega) (by omega)]
      exact ⟨N, rfl, K1, v7.trans (gup_hit rfl rfl), gFm.a7.trans F1⟩
  · rw [if_pos (qB_f hp), if_neg hp, gst_eq, mrow_a7, mrow_7, if_neg (by omega)]
    exact ⟨_, rfl, hK.a7, gup_hit rfl rfl, gFm.a7⟩
theorem b_run (l1 : g (a + 1) / 16 - 1 = 1190) (l4 : g (a + 4) / 16 - 1 = 9520) (hO : qOK r K) (hKK : K ≤ 90000000) (hK : KM M a n kept) {x : Int} : ∃ N, fX9_run g a x (mrow M (a + 1) r) = some (qWert (sRun r x).1, mrow N (a + 1) (sRun r x).2.2) ∧ KM N a (qN (sRun r x).2.1 n) (qK (sRun r x).2.1 r kept) ∧ N a 7 = qThr 2 (sRun r x).1 ∧ gFm a M N := by
  unfold fX9_run sRun
  rw [m_isIn, Option.bind_some]
  unfold fX9_run_17
  by_cases hx : 1 ≤ x ∧ x ≤ 300
  · obtain ⟨N, e1, K1, F1, v7⟩ := m_keep (g := g) (r := r) l1 l4 (hK.a7 (v := 0))
    rw [if_neg (by rw [qB_t hx]; omega), if_pos hx, gst_eq, mrow_a7, mrow_7, if_pos (Int.le_refl 0), e1, Option.bind_some, m_goesOn hO (by omega) (by omega)]
    exact ⟨N, rfl, K1, v7.trans (gup_hit rfl rfl), gFm.a7.trans F1⟩
  · rw [if_pos (qB_f hx), if_neg hx, gst_eq, mrow_a7, mrow_7, if_neg (by omega)]
    exact ⟨_, rfl, hK.a7, gup_hit rfl rfl, gFm.a7⟩
end Change2
