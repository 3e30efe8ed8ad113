/-! PURE: hand -/
def sHand (r : gRow) (k p : Int) : (Nat ⊕ Int) × Bool × gRow :=
  if 0 ≤ k ∧ k < r 0 then (if 0 ≤ p ∧ p < r 1 then (if qOnSlot r k = -1 then (.inr (-12), false, r) else if qInHand r p = -1 then (.inr (qOnSlot r k), true, qMv r (qOnSlot r k) p (-1)) else (.inr (-13), false, r)) else (.inl 3, false, r)) else (.inl 3, false, r)
section Hand
variable {M M' : gMem} {a : Nat} {r : gRow} {K K' n : Int} {kept : Nat → gRow} {g : Nat → Nat}
theorem a_hand (hO : qOK r K) (hD : DR M (a + 1) r K) (hKC : KC M (a + 131) n kept K) (hn : 0 ≤ n ∧ n ≤ 8) {k p : Int} : ∃ M', fX8_hand g a k p M = some ((sHand r k p).1, M') ∧ DR M' (a + 1) (sHand r k p).2.2 K ∧ qOK (sHand r k p).2.2 K ∧ KC M' (a + 131) (qN (sHand r k p).2.1 n) (qK (sHand r k p).2.1 r kept) K ∧ gFd a M M' := by
  have h0 := hO.1
  have h1 := hO.2.1
  have h2 := hO.2.2.1
  unfold fX8_hand sHand fX8_checkSlot fX0_hasSlot
  rw [c_exP hO hD, hD.1.1]
  by_cases hk : 0 ≤ k ∧ k < r 0
  · rw [if_neg (by omega), if_neg (by omega), if_pos hk]
    by_cases hp : 0 ≤ p ∧ p < r 1
    · rw [if_pos hp, if_pos hp]
      show ∃ M', ((fX0_lyingOn g (a + 1) k M).bind fun x_8 => _) = _ ∧ _
      rw [c_lyingOn hD.2.2.2.1 h0.2 hk, Option.bind_some]
      by_cases ho : qOnSlot r k = -1
      · rw [if_pos ho, if_pos ho]
        exact ⟨M, rfl, hD, hO, hKC, gFd.rfl'⟩
      · rw [if_neg ho, if_neg ho]
        show ∃ M', (if M (a + 1 + 1 + (8 + 4 * p.toNat)) 10 = -1 then _ else _) = _ ∧ _
        rw [(hD.2.1 p hp.1 hp.2).2.1]
        by_cases hh : qInHand r p = -1
        · obtain ⟨M1, e1, D1, K1, F1⟩ := c_keep (g := g) hO hD hKC hn
          have hs := qSlot_in h2.1 (r := r) k
          have hs' : (0 ≤ qOnSlot r k ∧ qOnSlot r k < r 2) ∧ rs r (qOnSlot r k) 3 = k := by rcases hs with w | w; exact absurd w ho; exact w
          have hMv : qMvOK r (qOnSlot r k) p (-1) := ⟨hs'.1, Or.inr ⟨rfl, hp, hh⟩⟩
          have O2 := qOK_mv hO hMv
          have HH := fun q hq => qMv_hand hO hMv (q := q) hq
          have SS := fun q hq => qMv_slot hO hMv (q := q) hq
          have hold := (hO.2.2.2.2.2.2.2 _ hs'.1.1 hs'.1.2).2.2.2.2.1
          rw [if_pos hh, if_pos hh, e1, Option.bind_some, c_setOnSlot (by omega) (Or.inl rfl), Option.bind_some, c_setInHand (by omega) (Or.inr (by omega)), Option.bind_some]
          generalize qOnSlot r k = o at *
          have hM' : cIH (cOS M1 (a + 1) k (-1)) (a + 1) p o = gup (gup (gup (gup M1 (a + 1 + 3) k.toNat (-1)) (a + 1 + 1 + (8 + 4 * p.toNat)) 10 o) (a + 1 + 2 + (39 + 2 * o.toNat)) 3 p) (a + 1 + 2 + (39 + 2 * o.toNat)) 4 (-1) := by
            unfold cIH cOS
            rw [if_neg ho, if_pos rfl]
          have F2 : gFr (a + 1) M1 (cIH (cOS M1 (a + 1) k (-1)) (a + 1) p o) := by
            rw [hM']
            exact (((gFr.up (by omega)).trans (gFr.up (by omega))).trans (gFr.up (by omega))).trans (gFr.up (by omega))
          refine ⟨_, rfl, DR_mv hO D1 hMv (fun x q1 q2 q3 => ?_) (fun q q1 q2 => ⟨?_, fun j hj => ?_⟩) (fun q q1 q2 => ?_) (fun j => ?_), O2, K1.desk F2 (Int.le_refl K), F1.trans F2.gFd⟩
          · rw [hM', gup_row (by omega), gup_row (by omega), gup_row (q1 p hp.1 hp.2), gup_row (by omega)]
          · rw [hM', HH q ⟨q1, q2⟩, gup_row (by omega), gup_row (by omega)]
            by_cases e : q = p
            · rw [if_pos e, e, gup_hit rfl rfl]
            · rw [if_neg e, if_neg (by omega), gup_row (by omega), gup_row (by omega)]
              exact (D1.2.1 q q1 q2).2.1
          · rw [hM', gup_row (by omega), gup_row (by omega), gup_miss (fun z => hj z.2), gup_row (by omega)]
          · rw [hM', SS q ⟨q1, q2⟩, gup_row (by omega), gup_row (by omega), gup_row (by omega)]
            by_cases e : q = k
            · rw [if_neg (by omega), if_pos (by omega), e, gup_hit rfl rfl]
            · rw [if_neg (by omega), if_neg (by omega), gup_miss (by omega)]
              exact D1.2.2.2.1 q q1 q2
          · rw [hM', gup_at, gup_at, gup_row (by omega), gup_row (by omega)]
            by_cases j4 : j = 4
            · rw [if_pos j4, if_neg (by omega), if_pos j4]
            · rw [if_neg j4]
              by_cases j3 : j = 3
              · rw [if_pos j3, if_pos j3]
              · rw [if_neg j3, if_neg j3, if_neg j4]
        · rw [if_neg hh, if_neg hh]
          exact ⟨M, rfl, hD, hO, hKC, gFd.rfl'⟩
    · rw [if_neg hp, if_neg hp]
      exact ⟨M, rfl, hD, hO, hKC, gFd.rfl'⟩
  · rw [if_neg hk]
    refine ⟨M, ?_, hD, hO, hKC, gFd.rfl'⟩
    by_cases hk0 : k < 0
    · rw [if_pos hk0]; rfl
    · rw [if_neg hk0, if_pos (by omega)]; rfl
theorem b_hand (l1 : g (a + 1) / 16 - 1 = 1190) (l4 : g (a + 4) / 16 - 1 = 9520) (hO : qOK r K) (hK : KM M a n kept) {k p : Int} : ∃ N, fX9_hand g a k p (mrow M (a + 1) r) = some (qWert (sHand r k p).1, mrow N (a + 1) (sHand r k p).2.2) ∧ KM N a (qN (sHand r k p).2.1 n) (qK (sHand r k p).2.1 r kept) ∧ N a 7 = qThr 3 (sHand r k p).1 ∧ gFm a M N := by
  have h0 := hO.1
  have h1 := hO.2.1
  have h2 := hO.2.2.1
  unfold fX9_hand sHand
  rw [m_isSl h0, Option.bind_some]
  unfold fX9_hand_21 fX9_hand_22
  by_cases hk : 0 ≤ k ∧ k < r 0
  · rw [if_neg (by rw [qB_t hk]; omega), m_isP h1, Option.bind_some, if_pos hk]
    by_cases hp : 0 ≤ p ∧ p < r 1
    · rw [if_neg (by rw [qB_t hp]; omega), if_pos hp, gst_eq, mrow_a7, mrow_7, if_pos (Int.le_refl 0), m_onSlot h2, Option.bind_some]
      have hs := qSlot_in h2.1 (r := r) k
      by_cases ho : qOnSlot r k = -1
      · rw [if_pos ho, if_pos ho]
        exact ⟨_, rfl, hK.a7, gup_hit rfl rfl, gFm.a7⟩
      · rw [if_neg ho, if_neg ho, m_inHand h2, Option.bind_some]
        by_cases hh : qInHand r p = -1
        · obtain ⟨N, e1, K1, F1, v7⟩ := m_keep (g := g) (r := r) l1 l4 (hK.a7 (v := 0))
          rw [if_pos hh, if_pos hh, e1, Option.bind_some, m_puts (by omega) (by omega), Option.bind_some, m_puts (by omega) (by omega)]
          exact ⟨N, rfl, K1, v7.trans (gup_hit rfl rfl), gFm.a7.trans F1⟩
        · rw [if_neg hh, if_neg hh]
          exact ⟨_, rfl, hK.a7, gup_hit rfl rfl, gFm.a7⟩
    · rw [if_pos (qB_f hp), if_neg hp, gst_eq, mrow_a7, mrow_7, if_neg (by omega)]
      exact ⟨_, rfl, hK.a7, gup_hit rfl rfl, gFm.a7⟩
  · rw [if_pos (qB_f hk), if_neg hk, gst_eq, mrow_a7, mrow_7, if_neg (by omega)]
    exact ⟨_, rfl, hK.a7, gup_hit rfl rfl, gFm.a7⟩
end Hand
