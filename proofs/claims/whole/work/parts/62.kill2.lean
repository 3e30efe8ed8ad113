/-! PURE: kill, the reference's side; unfair -/
section Kill2
variable {M M' : gMem} {a d : Nat} {r : gRow} {K K' n : Int} {kept : Nat → gRow} {g : Nat → Nat}
theorem m_kill_lp (hO : qOK r K) {h : Int} (hh : h = -1 ∨ (0 ≤ h ∧ h < r 2)) : ∀ (n : Nat) (k : Int) (fu : Nat), 0 ≤ k → k + n = r 0 → n < fu → fX9_kill_60 g fu a h k (mrow M (a + 1) r) = some (if h = -1 ∨ qFind (fun k => decide (qOnSlot r k = -1)) n k = -1 then (-1, mrow M (a + 1) r) else (qFind (fun k => decide (qOnSlot r k = -1)) n k, mrow M (a + 1) (qMv r h (-1) (qFind (fun k => decide (qOnSlot r k = -1)) n k)))) := by
  have h0 := hO.1
  have h2 := hO.2.2.1
  have t0 : mrow M (a + 1) r (a + 1) (0 : Int).toNat = r 0 := by rw [mrow_at]; rfl
  intro n
  induction n with
  | zero =>
    intro k fu hk hs hf
    obtain ⟨fu, rfl⟩ := fuS hf
    unfold fX9_kill_60 fX9_kill_85 qFind
    rw [if_pos (by omega), t0, if_pos (by omega), if_pos (Or.inr rfl)]
    by_cases e : h = -1
    · rw [if_pos e]
    · rw [if_neg e, if_pos (by omega), if_pos (by omega)]
  | succ n ih =>
    intro k fu hk hs hf
    obtain ⟨fu, rfl⟩ := fuS hf
    unfold fX9_kill_60 fX9_kill_85 qFind
    rw [if_pos (by omega), t0, if_neg (by omega), m_onSlot h2, Option.bind_some]
    by_cases e : qOnSlot r k = -1
    · rw [if_pos e]
      simp only [show decide (qOnSlot r k = -1) = true from decide_eq_true e, if_true]
      by_cases eh : h = -1
      · rw [if_pos eh, if_pos (Or.inl eh)]
      · have : ¬ (h = -1 ∨ k = -1) := by omega
        rw [if_neg eh, if_neg this, if_pos (by omega), if_neg (by omega), m_puts (by omega) (by omega), Option.bind_some, m_puts (by omega) (by omega)]
        rfl
    · rw [if_neg e, gst_eq, gwi_eq (by omega) (by omega), ih (k + 1) fu (by omega) (by omega) (by omega)]
      have ed : ¬ decide (qOnSlot r k = -1) = true := fun z => e (of_decide_eq_true z)
      simp only [if_neg ed]
theorem b_kill (l1 : g (a + 1) / 16 - 1 = 1190) (l4 : g (a + 4) / 16 - 1 = 9520) (hO : qOK r K) (hK : KM M a n kept) {p : Int} : ∃ N, fX9_kill g a p (mrow M (a + 1) r) = some (qWert (sKill r p).1, mrow N (a + 1) (sKill r p).2.2) ∧ KM N a (qN (sKill r p).2.1 n) (qK (sKill r p).2.1 r kept) ∧ N a 7 = qThr 3 (sKill r p).1 ∧ gFm a M N := by
  have h0' := hO.1
  have h1 := hO.2.1
  have h2 := hO.2.2.1
  unfold fX9_kill sKill
  rw [m_isP h1, Option.bind_some]
  unfold fX9_kill_14
  by_cases hp : 0 ≤ p ∧ p < r 1
  · rw [if_neg (by rw [qB_t hp]; omega), if_pos hp, gst_eq, mrow_a7, mrow_7, if_pos (Int.le_refl 0), m_isReady (by omega), Option.bind_some]
    by_cases h0 : rp r p 0 = 0
    · obtain ⟨N, e1, K1, F1, v7⟩ := m_keep (g := g) (r := r) l1 l4 (hK.a7 (v := 0))
      have O2 := qOK_rsp (k := 0) (v := 1) hO (Int.le_refl K) hp (by unfold qVal; omega)
      rw [if_neg (by rw [qB_t h0]; omega), if_pos h0, e1, Option.bind_some, m_sets (by omega) (by omega), Option.bind_some]
      generalize rsp r p 0 1 = r1 at *
      have g0 := O2.1
      have hh := qHand_in O2.2.2.1.1 (r := r1) p
      have L := m_kill_lp (g := g) (a := a) (M := N) O2 (h := qInHand r1 p) (by rcases hh with w | w; exact Or.inl w; exact Or.inr w.1) (r1 0).toNat 0 gF (by omega) (by omega) (by unfold gF; omega)
      rw [m_inHand O2.2.2.1, Option.bind_some, L]
      show ∃ N', some (if qInHand r1 p = -1 ∨ qFree r1 = -1 then _ else _) = _ ∧ _
      by_cases e : qInHand r1 p = -1 ∨ qFree r1 = -1
      · rw [if_pos e, if_pos e]
        exact ⟨N, rfl, K1, v7.trans (gup_hit rfl rfl), gFm.a7.trans F1⟩
      · rw [if_neg e, if_neg e]
        exact ⟨N, rfl, K1, v7.trans (gup_hit rfl rfl), gFm.a7.trans F1⟩
    · rw [if_pos (qB_f h0), if_neg h0]
      exact ⟨_, rfl, hK.a7, gup_hit rfl rfl, gFm.a7⟩
  · rw [if_pos (qB_f hp), if_neg hp, gst_eq, mrow_a7, mrow_7, if_neg (by omega)]
    exact ⟨_, rfl, hK.a7, gup_hit rfl rfl, gFm.a7⟩
theorem a_unf (hO : qOK r K) (hK : K ≤ 1000000000) (hD : DR M (a + 1) r K) : fX8_unfair g a M = some (sUnfair r) := by
  unfold fX8_unfair
  rw [a_unfair hO hK hD]
  rfl
theorem b_unf (hO : qOK r K) (hK : K ≤ 1000000000) : fX9_unfair g a (mrow M (a + 1) r) = some (sUnfair r, mrow (gup M a 7 0) (a + 1) r) := by
  unfold fX9_unfair
  rw [gst_eq, mrow_a7, m_unfair hO hK]
  rfl
end Kill2
