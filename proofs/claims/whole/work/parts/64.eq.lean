/-! PURE: what a row says lies below 1190 -/
section Eq
variable {M M' : gMem} {a d : Nat} {r r' : gRow} {K K' n : Int} {kept : Nat → gRow} {g : Nat → Nat}
theorem qOK.eq (hO : qOK r K) (h : qEq r r') : qOK r' K := by
  have h1 := hO.2.1
  have h2 := hO.2.2.1
  exact hO.tr (Int.le_refl K) (h 0 (by omega)) (h 1 (by omega)) (h 2 (by omega)) (by rw [h 3 (by omega)]; exact hO.2.2.2.1) (by rw [h 4 (by omega)]; exact hO.2.2.2.2.1) (by rw [h 5 (by omega)]; exact hO.2.2.2.2.2.1) (fun j q1 q2 => h j (by omega))
theorem DR.eq (hO : qOK r K) (hD : DR M d r K) (h : qEq r r') : DR M d r' K := by
  have h0 := hO.1
  have h1 := hO.2.1
  have h2 := hO.2.2.1
  have h5 := hO.2.2.2.2.2.1
  obtain ⟨A, B, C, D, E⟩ := hD
  refine ⟨A.congr (fun j hj => h j (by omega)) rfl, fun p q1 q2 => ?_, fun s q1 q2 => ?_, D.congr (h 0 (by omega)) (fun k => qOnSlot_congr (h 2 (by omega)) (fun s q1 q2 => h _ (by omega))) rfl, ?_⟩
  · rw [h 1 (by omega)] at q2
    have hOp := hO.p ⟨q1, q2⟩
    exact (B p q1 q2).congr (fun k q3 q4 => h _ (by omega)) (qInHand_congr (h 2 (by omega)) (fun s q1 q2 => h _ (by omega))) hOp.2.2.2.1.2 hOp.2.2.2.2.2.2.2.2.2.1.1 rfl rfl rfl rfl
  · rw [h 2 (by omega)] at q2
    exact (C s q1 q2).congr (hO.len q1 q2).2 (fun k q3 q4 => h _ (by omega)) rfl rfl
  · obtain ⟨t1, t2, t3, t4⟩ := E
    refine ⟨t1, t2, by rw [h 5 (by omega)]; exact t3, fun b q1 q2 => ?_⟩
    rw [h 5 (by omega)] at q2 ⊢
    rw [h _ (by omega), h _ (by omega), h _ (by omega), h _ (by omega)]
    exact t4 b q1 q2
/-- the reference takes back: its row is then one that agrees with what was kept -/
theorem b_undo (l1 : g (a + 1) / 16 - 1 = 1190) (l4 : g (a + 4) / 16 - 1 = 9520) (hK : KM M a n kept) : ∃ N r', fX9_undo g a (mrow M (a + 1) r) = some ((if n = 0 then 0 else n - 1), mrow N (a + 1) r') ∧ (if n = 0 then r' = r else qEq (kept 0) r') ∧ KM N a (if n = 0 then n else n - 1) (if n = 0 then kept else fun b => kept (b + 1)) ∧ N a 7 = (if n = 0 then 1 else 0) ∧ gFm a M N := by
  have hK0 := hK
  obtain ⟨k1, k2, k3⟩ := hK
  unfold fX9_undo fX9_undo_13
  have e6 : mrow M (a + 1) r a 6 = n := by rw [mrow_ne (by omega)]; exact k1
  rw [e6]
  by_cases h0 : n = 0
  · simp only [if_pos h0]
    refine ⟨gup M a 7 1, r, ?_, rfl, hK0.a7, gup_hit rfl rfl, gFm.a7⟩
    rw [gst_eq, mrow_a7, mrow_7, if_neg (by omega)]
  · simp only [if_neg h0]
    have e60 : mrow (gup M a 7 0) (a + 1) r a 6 = n := by rw [mrow_ne (by omega), gup_miss (by omega)]; exact k1
    rw [gst_eq, mrow_a7, mrow_7, if_pos (Int.le_refl 0), gst_eq, e60, gwi_eq (x := n - 1) (by omega) (by omega), gup_hit rfl rfl, gwi_eq (by omega) (by omega), m_copies (by omega) (by omega) (by omega) (by rw [l4]; omega) (by rw [l1]; omega), Option.bind_some]
    generalize hN : gcp (gup (mrow (gup M a 7 0) (a + 1) r) a 6 (n - 1)) (a + 4) (1190 * (n - 1)).toNat (a + 1) (0 : Int).toNat 1190 = N
    have N6 : N a 6 = n - 1 := by rw [← hN, gcp_row (by omega), gup_hit rfl rfl]
    have N7 : N a 7 = 0 := by rw [← hN, gcp_row (by omega), gup_miss (by omega), mrow_ne (by omega), gup_hit rfl rfl]
    have N4 : N (a + 4) = M (a + 4) := by rw [← hN, gcp_row (by omega), gup_row (by omega), mrow_ne (by omega), gup_row (by omega)]
    refine ⟨N, N (a + 1), by rw [mrow_self, N6], fun j hj => ?_, ⟨N6, by omega, fun b hb j hj => ?_⟩, N7, ⟨fun x q1 q2 q3 => ?_, fun j q1 q2 => ?_⟩⟩
    · have := k3 0 (by omega) j hj
      rw [← hN, gcp_hit ⟨rfl, by rw [tn0]; omega, by rw [tn0]; omega⟩, gup_row (by omega), mrow_ne (by omega), gup_row (by omega), ← this]
      rw [show (1190 * (n - 1)).toNat + (j - (0 : Int).toNat) = 1190 * (n.toNat - 1 - 0) + j by rw [tn0]; omega]
    · have := k3 (b + 1) (by omega) j hj
      show N (a + 4) _ = kept (b + 1) j
      rw [N4, ← this]
      rw [show 1190 * ((n - 1).toNat - 1 - b) + j = 1190 * (n.toNat - 1 - (b + 1)) + j by omega]
    · rw [← hN, gcp_row q2, gup_row q1, mrow_ne q2, gup_row q1]
    · rw [← hN, gcp_row (by omega), gup_miss (fun z => q1 z.2), mrow_ne (by omega), gup_miss (fun z => q2 z.2)]
end Eq
