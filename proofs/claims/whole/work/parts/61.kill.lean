/-! PURE: kill -/
def qFree (r : gRow) : Int := qFind (fun k => decide (qOnSlot r k = -1)) (r 0).toNat 0
def sKill (r : gRow) (p : Int) : (Nat ⊕ Int) × Bool × gRow :=
  if 0 ≤ p ∧ p < r 1 then (if rp r p 0 = 0 then (if qInHand (rsp r p 0 1) p = -1 ∨ qFree (rsp r p 0 1) = -1 then (.inr (-1), true, rsp r p 0 1) else (.inr (qFree (rsp r p 0 1)), true, qMv (rsp r p 0 1) (qInHand (rsp r p 0 1) p) (-1) (qFree (rsp r p 0 1)))) else (.inr (-14), false, r)) else (.inl 3, false, r)
section Kill
variable {M M' : gMem} {a d : Nat} {r : gRow} {K K' n : Int} {kept : Nat → gRow} {g : Nat → Nat}
theorem c_low_lp (hO : qOK r K) (hD : DR M d r K) : ∀ (n : Nat) (k : Int) (fu : Nat), 0 ≤ k → k + n = r 0 → n < fu → fX0_lowestEmptySlot_2 g fu d k M = some (qFind (fun k => decide (qOnSlot r k = -1)) n k) := by
  have h0 := hO.1
  intro n
  induction n with
  | zero =>
    intro k fu hk hs hf
    obtain ⟨fu, rfl⟩ := fuS hf
    unfold fX0_lowestEmptySlot_2 qFind
    rw [hD.1.1, if_pos (by omega)]
  | succ n ih =>
    intro k fu hk hs hf
    obtain ⟨fu, rfl⟩ := fuS hf
    unfold fX0_lowestEmptySlot_2 qFind
    rw [hD.1.1, if_neg (by omega), c_lyingOn hD.2.2.2.1 h0.2 (by omega), Option.bind_some]
    by_cases e : qOnSlot r k = -1
    · rw [if_pos e, if_pos (by simpa using e)]
    · rw [if_neg e, if_neg (by simpa using e), gst_eq, gwi_eq (by omega) (by omega)]
      exact ih (k + 1) fu (by omega) (by omega) (by omega)
theorem c_low (hO : qOK r K) (hD : DR M d r K) : fX0_lowestEmptySlot g d M = some (qFree r) := by
  have h0 := hO.1
  unfold fX0_lowestEmptySlot qFree
  exact c_low_lp hO hD (r 0).toNat 0 gF (by omega) (by omega) (by unfold gF; omega)
theorem a_kill (hO : qOK r K) (hD : DR M (a + 1) r K) (hKC : KC M (a + 131) n kept K) (hn : 0 ≤ n ∧ n ≤ 8) {p : Int} : ∃ M', fX8_kill g a p M = some ((sKill r p).1, M') ∧ DR M' (a + 1) (sKill r p).2.2 K ∧ qOK (sKill r p).2.2 K ∧ KC M' (a + 131) (qN (sKill r p).2.1 n) (qK (sKill r p).2.1 r kept) K ∧ gFd a M M' := by
  have h0' := hO.1
  have h1 := hO.2.1
  have h2 := hO.2.2.1
  unfold fX8_kill sKill
  rw [c_exP hO hD]
  by_cases hp : 0 ≤ p ∧ p < r 1
  · rw [if_pos hp, if_pos hp]
    show ∃ M', (if M (a + 1 + 1 + (8 + 4 * p.toNat)) 8 = 0 then _ else _) = _ ∧ _
    rw [(hD.2.1 p hp.1 hp.2).f.1]
    by_cases h0 : rp r p 0 = 0
    · obtain ⟨M1, e1, D1, K1, F1⟩ := c_keep (g := g) hO hD hKC hn
      have O2 := qOK_rsp (k := 0) (v := 1) hO (Int.le_refl K) hp (by unfold qVal; omega)
      have D2 := DR_p (k := 0) (v := 1) hO D1 hp (by omega) (Int.le_refl K)
      have F2 : gFr (a + 1) M1 (gup M1 (a + 1 + 1 + (8 + 4 * p.toNat)) 8 1) := gFr.up (by omega)
      have e10 : (rsp r p 0 1) 1 = r 1 := rsp_lo (by omega) (by omega) (by omega)
      have e20 : (rsp r p 0 1) 2 = r 2 := rsp_lo (by omega) (by omega) (by omega)
      have e00 : (rsp r p 0 1) 0 = r 0 := rsp_lo (by omega) (by omega) (by omega)
      have c0 : cf 0 = 8 := by decide
      rw [c0] at D2
      rw [if_pos h0, if_pos h0, e1, Option.bind_some, gst_eq]
      generalize rsp r p 0 1 = r1 at *
      generalize gup M1 (a + 1 + 1 + (8 + 4 * p.toNat)) 8 1 = M2 at *
      have hp1 : 0 ≤ p ∧ p < r1 1 := by rw [e10]; exact hp
      unfold fX8_kill_53
      rw [gst_eq, (D2.2.1 p hp1.1 hp1.2).2.1]
      by_cases hh : qInHand r1 p = -1
      · rw [if_pos hh, if_pos (Or.inl hh), if_pos rfl]
        exact ⟨M2, rfl, D2, O2, K1.desk F2 (Int.le_refl K), F1.trans F2.gFd⟩
      · rw [if_neg hh, c_low O2 D2, Option.bind_some]
        by_cases hf : qFree r1 = -1
        · rw [if_pos hf, if_pos (Or.inr hf), hf]
          exact ⟨M2, rfl, D2, O2, K1.desk F2 (Int.le_refl K), F1.trans F2.gFd⟩
        · have hfr : (0 ≤ qFree r1 ∧ qFree r1 < r1 0) ∧ qOnSlot r1 (qFree r1) = -1 := by
            unfold qFree at hf ⊢
            rcases qFind_spec (fun k => decide (qOnSlot r1 k = -1)) (r1 0).toNat 0 with ⟨w, -⟩ | ⟨w1, w2, w3, -⟩
            · exact absurd w hf
            · exact ⟨⟨w1, by omega⟩, of_decide_eq_true w3⟩
          have hs : (0 ≤ qInHand r1 p ∧ qInHand r1 p < r1 2) ∧ rs r1 (qInHand r1 p) 2 = p := by
            rcases qHand_in O2.2.2.1.1 (r := r1) p with w | w
            · exact absurd w hh
            · exact w
          have hMv : qMvOK r1 (qInHand r1 p) (-1) (qFree r1) := ⟨hs.1, Or.inl ⟨rfl, hfr.1, hfr.2⟩⟩
          have O3 := qOK_mv O2 hMv
          have HH := fun q hq => qMv_hand O2 hMv (q := q) hq
          have SS := fun q hq => qMv_slot O2 hMv (q := q) hq
          have hold := (O2.2.2.2.2.2.2.2 _ hs.1.1 hs.1.2).2.2.2.2.1
          rw [if_neg hf, if_neg (by omega), c_setInHand (by omega) (Or.inl rfl), Option.bind_some, c_setOnSlot (by omega) (Or.inr (by omega)), Option.bind_some]
          generalize qInHand r1 p = o at *
          generalize qFree r1 = f at *
          have hM' : cOS (cIH M2 (a + 1) p (-1)) (a + 1) f o = gup (gup (gup (gup M2 (a + 1 + 1 + (8 + 4 * p.toNat)) 10 (-1)) (a + 1 + 3) f.toNat o) (a + 1 + 2 + (39 + 2 * o.toNat)) 3 (-1)) (a + 1 + 2 + (39 + 2 * o.toNat)) 4 f := by
            unfold cIH cOS
            rw [if_neg hh, if_pos rfl]
          have F3 : gFr (a + 1) M2 (cOS (cIH M2 (a + 1) p (-1)) (a + 1) f o) := by
            rw [hM']
            exact (((gFr.up (by omega)).trans (gFr.up (by omega))).trans (gFr.up (by omega))).trans (gFr.up (by omega))
          refine ⟨_, rfl, DR_mv O2 D2 hMv (fun x q1 q2 q3 => ?_) (fun q q1 q2 => ⟨?_, fun j hj => ?_⟩) (fun q q1 q2 => ?_) (fun j => ?_), O3, K1.desk (F2.trans F3) (Int.le_refl K), F1.trans (F2.trans F3).gFd⟩
          · rw [hM', gup_row (by omega), gup_row (by omega), gup_row (by omega), gup_row (q1 p hp1.1 hp1.2)]
          · rw [hM', HH q ⟨q1, q2⟩, gup_row (by omega), gup_row (by omega), gup_row (by omega)]
            by_cases e : q = p
            · rw [if_neg (by omega), if_pos (by omega), e, gup_hit rfl rfl]
            · rw [if_neg (by omega), if_neg (by omega), gup_row (by omega)]
              exact (D2.2.1 q q1 q2).2.1
          · rw [hM', gup_row (by omega), gup_row (by omega), gup_row (by omega), gup_miss (fun z => hj z.2)]
          · rw [hM', SS q ⟨q1, q2⟩, gup_row (by omega), gup_row (by omega)]
            by_cases e : q = f
            · rw [if_pos e, e, gup_hit rfl rfl]
            · rw [if_neg e, if_neg (by omega), gup_miss (by omega), gup_row (by omega)]
              exact D2.2.2.2.1 q q1 q2
          · rw [hM', gup_at, gup_at, gup_row (by omega), gup_row (by omega)]
            by_cases j4 : j = 4
            · rw [if_pos j4, if_neg (by omega), if_pos j4]
            · rw [if_neg j4]
              by_cases j3 : j = 3
              · rw [if_pos j3, if_pos j3]
              · rw [if_neg j3, if_neg j3, if_neg j4]
    · rw [if_neg h0, if_neg h0]
      exact ⟨M, rfl, hD, hO, hKC, gFd.rfl'⟩
  · rw [if_neg hp, if_neg hp]
    exact ⟨M, rfl, hD, hO, hKC, gFd.rfl'⟩
end Kill
