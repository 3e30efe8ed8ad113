/-! PURE: what the class reads off its desk -/
section Class1
variable {M : gMem} {d : Nat} {r : gRow} {K : Int} {g : Nat → Nat}
theorem qHand_in (h2 : 0 ≤ r 2) (p : Int) : qInHand r p = -1 ∨ ((0 ≤ qInHand r p ∧ qInHand r p < r 2) ∧ rs r (qInHand r p) 2 = p) := by
  unfold qInHand
  rcases qFind_spec (fun s => decide (rs r s 2 = p)) (r 2).toNat 0 with ⟨h, -⟩ | ⟨h1, h3, h4, -⟩
  · exact Or.inl h
  · exact Or.inr ⟨⟨h1, by omega⟩, of_decide_eq_true h4⟩
theorem qSlot_in (h2 : 0 ≤ r 2) (k : Int) : qOnSlot r k = -1 ∨ ((0 ≤ qOnSlot r k ∧ qOnSlot r k < r 2) ∧ rs r (qOnSlot r k) 3 = k) := by
  unfold qOnSlot
  rcases qFind_spec (fun s => decide (rs r s 3 = k)) (r 2).toNat 0 with ⟨h, -⟩ | ⟨h1, h3, h4, -⟩
  · exact Or.inl h
  · exact Or.inr ⟨⟨h1, by omega⟩, of_decide_eq_true h4⟩
theorem qOK.st (h : qOK r K) {s : Int} (hs : 0 ≤ s ∧ s < r 2) : qSt r s := by
  have h2 := h.2.2.1
  have q := h.2.2.2.2.2.2.2 s hs.1 hs.2
  exact ⟨by omega, by have := q.1; have := q.2.1; omega, q.2.2.2.2.2.2.1⟩
theorem qOK.hand (h : qOK r K) (p : Int) : ¬ qInHand r p = -1 → qSt r (qInHand r p) := fun hn => by
  rcases qHand_in h.2.2.1.1 p with q | q
  · exact absurd q hn
  · exact h.st q.1
theorem c_needed {c : Int} : fX6_numbersNeeded g c = some (qNeed c) := by
  unfold fX6_numbersNeeded qNeed
  repeat (split; · simp (disch := omega) only [if_pos, if_neg])
  simp (disch := omega) only [if_pos, if_neg]
theorem c_isFull {c : Nat} {s : Int} (h : DRs M c r s) : fX3_isFull g c M = some (if rs r s 1 < rs r s 0 then 0 else 1) := by
  unfold fX3_isFull
  rw [h.1, h.2.1]
  split <;> rfl
theorem c_numberAt {c : Nat} {s : Int} (h : DRs M c r s) (h1 : 0 ≤ rs r s 1 ∧ rs r s 1 ≤ 16) {e : Int} : fX3_numberAt g c e M = some (if 0 ≤ e ∧ e < rs r s 1 then qNum r s e else -1000000) := by
  unfold fX3_numberAt fX3_numberAt_24
  rw [h.2.1]
  by_cases he : 0 ≤ e ∧ e < rs r s 1
  · have h2 := h.2.2.2.2.2 (rs r s 1 - 1 - e) (by omega) (by omega)
    have e2 : 5 + (rs r s 1 - 1 - e) = 5 + rs r s 1 - 1 - e := by omega
    rw [e2] at h2
    have b1 := he.1
    have b2 := he.2
    simp (disch := omega) only [if_pos, if_neg, gwi_eq]
    rw [h2]
    rfl
  · rw [if_neg he]
    by_cases h0 : e < 0
    · rw [if_pos h0]
    · rw [if_neg h0, if_pos (by omega)]
theorem c_numberAt_in {c : Nat} {s : Int} (h : DRs M c r s) (h1 : 0 ≤ rs r s 1 ∧ rs r s 1 ≤ 16) {e : Int} (he : 0 ≤ e ∧ e < rs r s 1) : fX3_numberAt g c e M = some (qNum r s e) := by rw [c_numberAt h h1, if_pos he]
theorem c_combined {c x y : Int} (hx : -999999 ≤ x ∧ x ≤ 999999) (hy : -999999 ≤ y ∧ y ≤ 999999) : fX6_combined g c x y = some (if c = 4 then x + y else if c = 5 then x - y else x * y) := by
  have hm := mul_rng hx hy
  unfold fX6_combined
  simp (disch := omega) only [gwl_eq]
  split
  · rfl
  · split <;> rfl
theorem qTail_c {c h : Int} (hc : 0 ≤ c ∧ c ≤ 13 ∧ ¬ (8 ≤ c ∧ c ≤ 10) ∧ ¬ c = 11 ∧ ¬ c = 13) (hb : rs r h 1 ≤ rs r h 0) (h1 : 0 ≤ rs r h 1 ∧ rs r h 1 ≤ 16) : qTail r c h = if rs r h 1 < qNeed c then 4 else if (c = 0 ∨ c = 2) ∧ ¬ rs r h 1 < rs r h 0 then 5 else if 4 ≤ c ∧ c ≤ 6 then (if qRes r h c < -999999 ∨ 999999 < qRes r h c then 6 else 0) else 0 := by
  obtain ⟨h0, h13, h8, h11, h13'⟩ := hc
  have hc' : c = 0 ∨ c = 1 ∨ c = 2 ∨ c = 3 ∨ c = 4 ∨ c = 5 ∨ c = 6 ∨ c = 7 ∨ c = 12 := by omega
  have he : rs r h 1 = rs r h 0 ↔ ¬ rs r h 1 < rs r h 0 := by omega
  unfold qTail
  simp only [he]
  by_cases hn : 0 < qNeed c
  · simp only [hn, true_and]
  · have hz : c = 0 := by
      rcases hc' with rfl | rfl | rfl | rfl | rfl | rfl | rfl | rfl | rfl <;> first | rfl | exact absurd (by decide) hn
    have q0 : ¬ rs r h 1 < qNeed c := by
      subst hz
      have : qNeed 0 = 0 := by decide
      rw [this]
      omega
    rw [if_neg (fun z => hn z.1), if_neg q0]
theorem c_f111 {c : Int} {b : Nat} {h : Int} (hS : DRs M b r h) (hs : qSt r h) (h2 : 2 ≤ rs r h 1) : fX6_faultOf_111 g c b M = some (if qRes r h c < -999999 ∨ 999999 < qRes r h c then 6 else 0) := by
  have n0 := qNum_rng hs (d := 0) (by omega)
  have n1 := qNum_rng hs (d := 1) (by omega)
  unfold fX6_faultOf_111
  rw [c_numberAt_in hS hs.2.1 (by omega), Option.bind_some, c_numberAt_in hS hs.2.1 (by omega), Option.bind_some, c_combined n1 n0, Option.bind_some]
  simp only [glcmp_lt, glcmp_le]
  show (if qRes r h c < -999999 then some 6 else if qRes r h c ≤ 999999 then some 0 else some 6) = _
  by_cases h1 : qRes r h c < -999999
  · rw [if_pos h1, if_pos (Or.inl h1)]
  · rw [if_neg h1]
    by_cases h3 : qRes r h c ≤ 999999
    · rw [if_pos h3, if_neg (by omega)]
    · rw [if_neg h3, if_pos (Or.inr (by omega))]
theorem c_faultOf (hO : qOK r K) (hD : DR M d r K) {p : Int} (hp : 0 ≤ p ∧ p < r 1) : fX6_faultOf g d (d + 1 + (8 + 4 * p.toNat)) M = some (if rp r p 2 < rp r p 3 then qFault r p else 0) := by
  have hP := hD.2.1 p hp.1 hp.2
  have hOp := hO.2.2.2.2.2.2.1 p hp.1 hp.2
  have h3 : rp r p 3 ≤ 24 := hOp.2.2.2.1.2
  have h2' := hO.2.2.1
  have hpl := hOp.2.2.1
  unfold fX6_faultOf
  rw [hP.f.2.2.1]
  by_cases hin : rp r p 2 < rp r p 3
  · rw [c_kindAt_in hP h3 ⟨hpl.1, hin⟩, Option.bind_some]
    have hcv := hOp.2.2.2.2.2.2.2.2.2.2 (rp r p 2) hpl.1 hin
    rw [if_pos hin]
    unfold qFault
    generalize hc : rp r p (18 + rp r p 2) = c at hcv ⊢
    rw [if_neg (by omega)]
    by_cases h11 : c = 11
    · rw [if_pos h11, h11]; unfold qFaultC qTail qNeed; simp
    · rw [if_neg h11]
      by_cases h13 : c = 13
      · rw [if_pos h13, h13]; unfold qFaultC qTail qNeed; simp
      · rw [if_neg h13, c_isMove, Option.bind_some]
        by_cases h8 : 8 ≤ c ∧ c ≤ 10
        · rw [if_neg (by rw [qB_t h8]; omega), c_operandAt_in hP h3 ⟨hpl.1, hin⟩, Option.bind_some, c_moveFault hP, Option.bind_some, qMF_eq h8]
        · rw [if_pos (qB_f h8), hP.2.1]
          rcases qHand_in h2'.1 p with hq | hq
          · rw [hq, c_pileAt_out hD.1 h2' (by omega), Option.bind_some, if_pos rfl]
            unfold qFaultC
            rw [if_pos ⟨⟨by omega, h11, h13⟩, rfl⟩]
          · have hS := hD.2.2.1 _ hq.1.1 hq.1.2
            have hst := hO.st hq.1
            have hb : rs r (qInHand r p) 1 ≤ rs r (qInHand r p) 0 := (hO.2.2.2.2.2.2.2 _ hq.1.1 hq.1.2).2.1.2
            have hf : qFaultC r p c (rp r p (42 + rp r p 2)) (qInHand r p) = qTail r c (qInHand r p) := by
              unfold qFaultC
              rw [if_neg (by omega), if_neg (fun z => h8 z.1), if_neg (by omega)]
            rw [hf, qTail_c ⟨hcv.1.1, hcv.1.2, h8, h11, h13⟩ hb hst.2.1, c_pileAt_in hD.1 h2' hq.1, Option.bind_some, if_neg (by omega), c_needed, Option.bind_some, hS.2.1]
            have h95 : ¬ rs r (qInHand r p) 1 < qNeed c → fX6_faultOf_95 g c (d + 2 + (39 + 2 * (qInHand r p).toNat)) M = some (if 4 ≤ c ∧ c ≤ 6 then (if qRes r (qInHand r p) c < -999999 ∨ 999999 < qRes r (qInHand r p) c then 6 else 0) else 0) := by
              intro hn
              unfold fX6_faultOf_95
              by_cases h4 : 4 ≤ c ∧ c ≤ 6
              · have : qNeed c = 2 := by unfold qNeed; rw [if_neg (by omega), if_pos (by omega)]
                rw [c_f111 hS hst (by omega), if_pos h4]
                by_cases e4 : c = 4
                · rw [if_pos e4]
                · rw [if_neg e4]
                  by_cases e5 : c = 5
                  · rw [if_pos e5]
                  · rw [if_neg e5, if_pos (by omega)]
              · rw [if_neg (by omega), if_neg (by omega), if_neg (by omega), if_neg h4]
            by_cases hn : rs r (qInHand r p) 1 < qNeed c
            · rw [if_neg (by omega), if_pos hn]
            · rw [if_pos (by omega), if_neg hn, h95 hn]
              unfold fX6_faultOf_86
              rw [c_isFull hS, Option.bind_some, h95 hn]
              by_cases hfull : rs r (qInHand r p) 1 < rs r (qInHand r p) 0
              · rw [if_neg (show ¬ ((c = 0 ∨ c = 2) ∧ ¬ rs r (qInHand r p) 1 < rs r (qInHand r p) 0) from fun z => z.2 hfull)]
                simp [hfull]
              · by_cases h02 : c = 0 ∨ c = 2
                · rw [if_pos (show (c = 0 ∨ c = 2) ∧ ¬ rs r (qInHand r p) 1 < rs r (qInHand r p) 0 from ⟨h02, hfull⟩)]
                  rcases h02 with h | h <;> simp [h, hfull]
                · rw [if_neg (show ¬ ((c = 0 ∨ c = 2) ∧ ¬ rs r (qInHand r p) 1 < rs r (qInHand r p) 0) from fun z => h02 z.1), if_neg (fun z => h02 (Or.inl z)), if_neg (fun z => h02 (Or.inr z))]
  · rw [c_kindAt_out hP h3 (by omega), Option.bind_some, if_pos rfl, if_neg hin]
theorem c_waitReason (hO : qOK r K) (hD : DR M d r K) {p : Int} (hp : 0 ≤ p ∧ p < r 1) : fX6_waitReason g d (d + 1 + (8 + 4 * p.toNat)) M = some (qStuck r p) := by
  have hP := hD.2.1 p hp.1 hp.2
  have hOp := hO.2.2.2.2.2.2.1 p hp.1 hp.2
  have h3 : rp r p 3 ≤ 24 := hOp.2.2.2.1.2
  have h0' := hO.1
  have hpl := hOp.2.2.1
  unfold fX6_waitReason qStuck
  rw [hP.f.2.2.1, hP.f.1]
  by_cases hin : rp r p 2 < rp r p 3
  · rw [c_kindAt_in hP h3 ⟨hpl.1, hin⟩, Option.bind_some]
    by_cases hr : rp r p 0 = 0
    · rw [if_pos hr, c_isMove, Option.bind_some]
      have hcv := hOp.2.2.2.2.2.2.2.2.2.2 (rp r p 2) hpl.1 hin
      rw [c_operandAt_in hP h3 ⟨hpl.1, hin⟩, Option.bind_some, c_moveFault hP, Option.bind_some]
      unfold qFault qBlock qBlockC
      generalize rp r p (18 + rp r p 2) = c at hcv ⊢
      generalize rp r p (42 + rp r p 2) = v at hcv ⊢
      by_cases h8 : 8 ≤ c ∧ c ≤ 10
      · have hv := hcv.2.2.1 h8.1 h8.2
        have hge : 0 ≤ qMF r p c v := by unfold qMF; split <;> (try split) <;> (try split) <;> omega
        rw [if_neg (by rw [qB_t h8]; omega), c_lyingOn hD.2.2.2.1 h0'.2 hv, Option.bind_some, qMF_eq h8, if_pos h8]
        unfold fX6_waitReason_59
        by_cases hm : qMF r p c v = 0
        · rw [if_pos hm, if_pos (show rp r p 0 = 0 ∧ rp r p 2 < rp r p 3 ∧ qMF r p c v ≤ 0 from ⟨hr, hin, by omega⟩)]
          by_cases hq : qOnSlot r v = -1 <;> by_cases e8 : c = 8 <;> simp [hq, e8]
        · rw [if_neg hm, if_neg (by omega)]
      · rw [if_pos (qB_f h8), if_neg h8]
        split <;> rfl
    · rw [if_neg hr, if_neg (by omega)]
  · rw [c_kindAt_out hP h3 (by omega), Option.bind_some, if_neg (show ¬ (rp r p 0 = 0 ∧ rp r p 2 < rp r p 3 ∧ qFault r p ≤ 0) from fun z => hin z.2.1)]
    by_cases hr : rp r p 0 = 0
    · rw [if_pos hr, c_isMove, Option.bind_some, if_pos (qB_f (by omega))]
    · rw [if_neg hr]
end Class1
