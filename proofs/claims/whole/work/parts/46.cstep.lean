/-! PURE: the class's step beside the reference's -/
theorem rup_comm {r : gRow} {i j v w : Int} (h : ¬ i.toNat = j.toNat) : rup (rup r i v) j w = rup (rup r j w) i v := by
  funext x
  show (if x = j.toNat then w else (if x = i.toNat then v else r x)) = (if x = i.toNat then v else (if x = j.toNat then w else r x))
  by_cases e : x = j.toNat
  · rw [if_pos e, if_neg (by omega), if_pos e]
  · rw [if_neg e, if_neg e]
theorem rup_over {r : gRow} {i v w : Int} : rup (rup r i v) i w = rup r i w := by
  funext x
  show (if x = i.toNat then w else (if x = i.toNat then v else r x)) = (if x = i.toNat then w else r x)
  split <;> rfl
theorem rup_same {r : gRow} {i : Int} : rup r i (r i.toNat) = r := by
  funext x
  show (if x = i.toNat then r i.toNat else r x) = r x
  split
  · rename_i e; rw [e]
  · rfl
theorem qSh_rup {p i w : Int} (hp : 0 ≤ p ∧ p < 8) (hi : 694 ≤ i) : ∀ (n : Nat) (r : gRow), n ≤ 19 → qSh p n (rup r i w) = rup (qSh p n r) i w := by
  intro n
  induction n with
  | zero => intro r _; rfl
  | succ n ih =>
    intro r hn
    unfold qSh rsp
    rw [rp_rup (by omega), rup_comm (by omega), ih _ (by omega)]
theorem qSay_rup {r : gRow} {p i w v : Int} (hp : 0 ≤ p ∧ p < 8) (hi : 694 ≤ i) : qSay (rup r i w) p v = rup (qSay r p v) i w := by
  unfold qSay qSay1 qSay2 rsp
  rw [qSh_rup hp hi 19 r (by omega)]
  generalize qSh p 19 r = X
  rw [show rup (rup X i w) (6 + 86 * p + 66) v = rup (rup X (6 + 86 * p + 66) v) i w from rup_comm (by omega), show rp (rup (rup X (6 + 86 * p + 66) v) i w) p 9 = rp (rup X (6 + 86 * p + 66) v) p 9 from rp_rup (by omega)]
  exact rup_comm (by omega)
theorem qFaultC_congr {r r' : gRow} {p c v h : Int} (e5 : rp r' p 5 = rp r p 5) (hs : ¬ h = -1 → (0 ≤ rs r h 1 ∧ rs r h 1 ≤ 16) ∧ ∀ k : Int, 0 ≤ k → k < 21 → rs r' h k = rs r h k) : qFaultC r' p c v h = qFaultC r p c v h := by
  have hT : (¬ h = -1 ∨ c = 9 ∨ c = 11 ∨ c = 13) → qTail r' c h = qTail r c h := by
    intro hc
    by_cases e : h = -1
    · have hn : qNeed c = 0 := by unfold qNeed; rw [if_neg (by omega), if_neg (by omega)]
      unfold qTail
      rw [if_neg (by omega), if_neg (by omega), if_neg (by omega), if_neg (by omega), if_neg (by omega), if_neg (by omega)]
    · obtain ⟨hl, hr⟩ := hs e
      have e1 := hr 1 (by omega) (by omega)
      have n0 : qNum r' h 0 = qNum r h 0 := by unfold qNum; rw [e1, hr _ (by omega) (by omega)]
      have n1 : qNum r' h 1 = qNum r h 1 := by unfold qNum; rw [e1, hr _ (by omega) (by omega)]
      have er : qRes r' h c = qRes r h c := by unfold qRes; rw [n0, n1]
      unfold qTail
      rw [e1, hr 0 (by omega) (by omega), er]
  unfold qFaultC
  rw [e5]
  by_cases h1 : (¬ c = 9 ∧ ¬ c = 11 ∧ ¬ c = 13) ∧ h = -1
  · rw [if_pos h1, if_pos h1]
  · rw [if_neg h1, if_neg h1, hT (by omega)]
section CStep
variable {M M' : gMem} {d : Nat} {r r' : gRow} {K K' : Int} {g : Nat → Nat}
theorem DR.mono (h : DR M d r K) (hK : K ≤ K') : DR M d r K' := by
  obtain ⟨A, B, C, D, t1, t2, t3, t4⟩ := h
  exact ⟨A, B, C, D, t1, by omega, t3, t4⟩
theorem qFault_cnt (hO : qOK r K) {p k v q : Int} (hp : 0 ≤ p ∧ p < r 1) (hk : k = 6 ∨ k = 7 ∨ k = 8) (hq : 0 ≤ q ∧ q < r 1) : qFault (rsp r p k v) q = qFault r q := by
  have h1 := hO.2.1
  have h2 := hO.2.2.1
  have hOp := hO.p hq
  have hpl := hOp.2.2.1
  have e2 : (rsp r p k v) 2 = r 2 := rsp_lo (by omega) (by omega) (by omega)
  have es : ∀ s j : Int, 0 ≤ s → 0 ≤ j → rs (rsp r p k v) s j = rs r s j := fun s j q1 q2 => rs_rsp (by omega) q1 (by omega) q2
  have ep : ∀ j : Int, 0 ≤ j → j < 86 → ¬ j = k → rp (rsp r p k v) q j = rp r q j := fun j q1 q2 q3 => by simp (disch := omega) only [rp_rsp_ne]
  have eh : qInHand (rsp r p k v) q = qInHand r q := qInHand_congr e2 (fun s q1 q2 => es s 2 q1 (by omega))
  unfold qFault
  rw [ep 2 (by omega) (by omega) (by omega), ep _ (by omega) (by omega) (by omega), ep _ (by omega) (by omega) (by omega), eh]
  refine qFaultC_congr (ep 5 (by omega) (by omega) (by omega)) (fun hn => ?_)
  rcases qHand_in h2.1 (r := r) q with w | w
  · exact absurd w hn
  · exact ⟨hO.len w.1.1 w.1.2, fun k q1 q2 => es _ k w.1.1 q1⟩
theorem c_work (hO : qOK r K) (hK : K ≤ 900000000) (hD : DR M d r K) {p c v : Int} (hp : 0 ≤ p ∧ p < r 1) (hC : qCan r p c v) (hc7 : c ≤ 7 ∨ c = 12) : ∃ M', fX6_work g (d + 1 + (8 + 4 * p.toNat)) (d + 2 + (39 + 2 * (qInHand r p).toNat)) c v M = some M' ∧ DR M' d (qDoes r p c v) (K + 1) ∧ gFr d M M' := by
  have h1 := hO.2.1
  have h2 := hO.2.2.1
  have hp8 : 0 ≤ p ∧ p < 8 := by omega
  obtain ⟨hc, hA, hB, hJ, hv⟩ := hC
  obtain ⟨hh, hn, hf, hr⟩ := hA hc7
  have hst := hO.st hh
  have hb := (hO.2.2.2.2.2.2.2 _ hh.1 hh.2).2.1
  have hl := hst.2.1
  have nr : ∀ d : Int, 0 ≤ d ∧ d < rs r (qInHand r p) 1 → -999999 ≤ qNum r (qInHand r p) d ∧ qNum r (qInHand r p) d ≤ 999999 := fun d hd => qNum_rng hst hd
  have hS := hD.2.2.1 _ hh.1 hh.2
  have v0 := c_numberAt (g := g) hS hl (e := 0)
  have v1 := c_numberAt (g := g) hS hl (e := 1)
  unfold fX6_work qDoes
  rw [v0, Option.bind_some, v1, Option.bind_some]
  have w0 : 1 ≤ rs r (qInHand r p) 1 → (if (0 : Int) ≤ 0 ∧ 0 < rs r (qInHand r p) 1 then qNum r (qInHand r p) 0 else -1000000) = qNum r (qInHand r p) 0 := fun q => if_pos (by omega)
  have w1 : 2 ≤ rs r (qInHand r p) 1 → (if (0 : Int) ≤ 1 ∧ 1 < rs r (qInHand r p) 1 then qNum r (qInHand r p) 1 else -1000000) = qNum r (qInHand r p) 1 := fun q => if_pos (by omega)
  generalize hw : qInHand r p = w at *
  generalize (if (0 : Int) ≤ 0 ∧ 0 < rs r w 1 then qNum r w 0 else -1000000) = x0 at w0 ⊢
  generalize (if (0 : Int) ≤ 1 ∧ 1 < rs r w 1 then qNum r w 1 else -1000000) = x1 at w1 ⊢
  by_cases c0 : c = 0
  · rw [if_pos c0, if_pos c0]
    obtain ⟨M1, e1, D1, F1⟩ := c_addTop (g := g) (v := v) hO hD hh (hf (Or.inl c0))
    exact ⟨M1, by rw [e1]; rfl, D1.mono (by omega), F1⟩
  rw [if_neg c0, if_neg c0]
  have hn1 : 1 ≤ rs r w 1 := by
    have : 1 ≤ qNeed c := by
      unfold qNeed
      split
      · omega
      · rw [if_pos (by omega)]; omega
    omega
  have w0' := w0 hn1
  obtain ⟨M1, e1, D1, F1⟩ := c_dropTop (g := g) hO hD hh hn1
  obtain ⟨A1, A2, A3, A4⟩ := qOK_pop' hO hh hn1
  by_cases c1 : c = 1
  · rw [if_pos c1, if_pos c1]
    unfold fX6_work_176
    exact ⟨M1, by rw [e1]; rfl, D1.mono (by omega), F1⟩
  rw [if_neg c1, if_neg c1]
  by_cases c2 : c = 2
  · rw [if_pos c2, if_pos c2, w0']
    obtain ⟨M1, e1, D1, F1⟩ := c_addTop (g := g) (v := qNum r w 0) hO hD hh (hf (Or.inr c2))
    exact ⟨M1, by rw [e1]; rfl, D1.mono (by omega), F1⟩
  rw [if_neg c2, if_neg c2]
  by_cases c3 : c = 3
  · have hn' : 2 ≤ rs r w 1 := by
      have : qNeed c = 2 := by rw [c3]; decide
      omega
    rw [if_pos c3, if_pos c3, w0', w1 hn']
    obtain ⟨M2, e2, D2, F2⟩ := c_dropTop (g := g) A1 D1 (s := w) (by omega) (by omega)
    obtain ⟨B1, B2, B3, B4⟩ := qOK_pop' (s := w) A1 (by omega) (by omega)
    obtain ⟨M3, e3, D3, F3⟩ := c_addTop (g := g) (v := qNum r w 0) B1 D2 (s := w) (by omega) (by omega)
    obtain ⟨C1, C2, C3, C4⟩ := qOK_push' (s := w) B1 (by omega) (by omega) (nr 0 (by omega))
    obtain ⟨M4, e4, D4, F4⟩ := c_addTop (g := g) (v := qNum r w 1) C1 D3 (s := w) (by omega) (by omega)
    refine ⟨M4, ?_, D4.mono (by omega), ((F1.trans F2).trans F3).trans F4⟩
    rw [e1, Option.bind_some, e2, Option.bind_some, e3, Option.bind_some, e4]; rfl
  rw [if_neg c3, if_neg c3]
  by_cases c4 : 4 ≤ c ∧ c ≤ 6
  · have hn' : 2 ≤ rs r w 1 := by
      have : qNeed c = 2 := by unfold qNeed; rw [if_neg (by omega), if_pos (by omega)]
      omega
    have hrr := hr c4
    obtain ⟨M2, e2, D2, F2⟩ := c_dropTop (g := g) A1 D1 (s := w) (by omega) (by omega)
    obtain ⟨B1, B2, B3, B4⟩ := qOK_pop' (s := w) A1 (by omega) (by omega)
    obtain ⟨M3, e3, D3, F3⟩ := c_addTop (g := g) (v := qRes r w c) B1 D2 (s := w) (by omega) (by omega)
    have key : fX6_work_120 g (d + 2 + (39 + 2 * w.toNat)) c x0 x1 M = some M3 := by
      unfold fX6_work_120
      rw [w0', w1 hn', e1, Option.bind_some, e2, Option.bind_some, c_combined (nr 1 (by omega)) (nr 0 (by omega)), Option.bind_some]
      show ((fX3_addTop g (d + 2 + (39 + 2 * w.toNat)) (gwi (qRes r w c)) M2).bind fun M_8 => some M_8) = some M3
      rw [gwi_eq (by omega) (by omega), e3]; rfl
    refine ⟨M3, ?_, ?_, (F1.trans F2).trans F3⟩
    · have c4' : c = 4 ∨ c = 5 ∨ c = 6 := by omega
      rcases c4' with q | q | q <;> simp (disch := omega) only [if_pos, if_neg, key]
    · rw [if_pos c4]; exact D3.mono (by omega)
  by_cases c7' : c = 7
  · simp (disch := omega) only [if_pos, if_neg]
    obtain ⟨M2, e2, D2, F2⟩ := c_keepSaying (g := g) A1 (by omega) D1 (p := p) (v := x0) (by rw [show (qPop r w) 1 = r 1 from qPop_lo hh.1 1 (by omega)]; exact hp)
    have er : qSay (qPop r w) p (qNum r w 0) = qPop (qSay r p (qNum r w 0)) w := by
      have el : rs (qSay r p (qNum r w 0)) w 1 = rs r w 1 := qSay_off hp8 _ (by omega)
      unfold qPop
      rw [el]
      exact qSay_rup hp8 (by omega)
    rw [w0', er] at D2
    exact ⟨M2, by rw [e1, Option.bind_some, e2]; rfl, D2, F1.trans F2⟩
  have c12 : c = 12 := by omega
  simp (disch := omega) only [if_pos, if_neg]
  rw [e1, Option.bind_some, w0']
  by_cases hz : qNum r w 0 = 0
  · have D2 := DR_p (v := v) (k := 2) (K' := K + 1) A1 D1 (p := p) (by rw [show (qPop r w) 1 = r 1 from qPop_lo hh.1 1 (by omega)]; exact hp) (by omega) (by omega)
    have er : rsp (qPop r w) p 2 v = qPop (rsp r p 2 v) w := by
      have el : rs (rsp r p 2 v) w 1 = rs r w 1 := rs_rsp hp8 hh.1 (by omega) (by omega)
      unfold qPop
      rw [el]
      exact rup_comm (by omega)
    rw [er] at D2
    rw [if_pos hz, if_pos hz]
    exact ⟨_, rfl, D2, F1.trans (gFr.up (by omega))⟩
  · rw [if_neg hz, if_neg hz]
    exact ⟨M1, rfl, D1.mono (by omega), F1⟩
theorem c_carryEnd (hO : qOK r K) (hD : DR M d r K) {p : Int} (hp : 0 ≤ p ∧ p < r 1) (hout : ¬ rp r p 2 < rp r p 3) : ∃ M', fX6_carryOut g d p (d + 1 + (8 + 4 * p.toNat)) M = some M' ∧ DR M' d (rsp r p 0 1) K ∧ gFr d M M' := by
  have h1 := hO.2.1
  have hOp := hO.p hp
  have hP := hD.2.1 p hp.1 hp.2
  refine ⟨gup M (d + 1 + (8 + 4 * p.toNat)) 8 1, ?_, DR_p (k := 0) hO hD hp (by omega) (Int.le_refl _), gFr.up (by omega)⟩
  unfold fX6_carryOut fX6_carryOut_30
  rw [hP.f.2.2.1, c_kindAt_out hP hOp.2.2.2.1.2 (by omega), Option.bind_some, c_operandAt_out hP hOp.2.2.2.1.2 (by omega), Option.bind_some, if_pos rfl]
  rfl
theorem c_carryOut (hO : qOK r K) (hK : K ≤ 900000000) (hD : DR M d r K) {p c v : Int} (hp : 0 ≤ p ∧ p < r 1) (hin : rp r p 2 < rp r p 3) (hc : c = rp r p (18 + rp r p 2)) (hv : v = rp r p (42 + rp r p 2)) (hC : qCan (rsp r p 2 (rp r p 2 + 1)) p c v) : ∃ M', fX6_carryOut g d p (d + 1 + (8 + 4 * p.toNat)) M = some M' ∧ DR M' d (qDoes (rsp r p 2 (rp r p 2 + 1)) p c v) (K + 1) ∧ gFr d M M' := by
  have h1 := hO.2.1
  have h2 := hO.2.2.1
  have hOp := hO.p hp
  have hpl := hOp.2.2.1
  have h24 := hOp.2.2.2.1
  have hP := hD.2.1 p hp.1 hp.2
  have hcr := hC.1
  unfold fX6_carryOut fX6_carryOut_30
  rw [hP.f.2.2.1, c_kindAt_in hP h24.2 ⟨hpl.1, hin⟩, Option.bind_some, c_operandAt_in hP h24.2 ⟨hpl.1, hin⟩, Option.bind_some, ← hc, ← hv, if_neg (by omega)]
  have D1 := DR_p (v := rp r p 2 + 1) (k := 2) hO hD hp (by omega) (Int.le_refl K)
  have O1 : qOK (rsp r p 2 (rp r p 2 + 1)) K := qOK_rsp hO (Int.le_refl K) hp (by unfold qVal; omega)
  have F1 : gFr d M (gup M (d + 1 + (8 + 4 * p.toNat)) 7 (rp r p 2 + 1)) := gFr.up (by omega)
  have e1 : (rsp r p 2 (rp r p 2 + 1)) 1 = r 1 := rsp_lo (by omega) (by omega) (by omega)
  have e0 : (rsp r p 2 (rp r p 2 + 1)) 0 = r 0 := rsp_lo (by omega) (by omega) (by omega)
  have e2 : (rsp r p 2 (rp r p 2 + 1)) 2 = r 2 := rsp_lo (by omega) (by omega) (by omega)
  have ep : rp (rsp r p 2 (rp r p 2 + 1)) p 2 = rp r p 2 + 1 := rp_rsp_eq
  have c2 : cf 2 = 7 := by decide
  rw [c2] at D1
  by_cases c13 : c = 13
  · rw [if_pos c13]
    have er : qDoes (rsp r p 2 (rp r p 2 + 1)) p c v = rsp r p 0 1 := by
      unfold qDoes
      simp (disch := omega) only [if_neg]
      rw [ep]
      unfold rsp
      rw [rup_comm (by omega), rup_over, show rp r p 2 + 1 - 1 = rp r p 2 by omega]
      congr 1
      exact rup_same
    rw [er]
    exact ⟨_, rfl, DR_p (k := 0) hO hD hp (by omega) (by omega), gFr.up (by omega)⟩
  rw [if_neg c13, gst_eq, gwi_eq (by omega) (by omega)]
  generalize hr' : rsp r p 2 (rp r p 2 + 1) = r' at *
  generalize hM1 : gup M (d + 1 + (8 + 4 * p.toNat)) 7 (rp r p 2 + 1) = M1 at *
  have hp' : 0 ≤ p ∧ p < r' 1 := by rw [e1]; exact hp
  by_cases c11 : c = 11
  · rw [if_pos c11]
    have D2 := DR_p (v := v) (k := 2) (K' := K + 1) O1 D1 hp' (by omega) (by omega)
    have er : qDoes r' p c v = rsp r' p 2 v := by
      unfold qDoes
      simp (disch := omega) only [if_neg, if_pos]
    rw [er]
    exact ⟨_, rfl, D2, F1.trans (gFr.up (by omega))⟩
  rw [if_neg c11, c_isMove, Option.bind_some]
  by_cases c8 : 8 ≤ c ∧ c ≤ 10
  · rw [if_neg (by rw [qB_t c8]; omega)]
    obtain ⟨M2, e3, D2, F2⟩ := c_moveStacks (g := g) O1 (by omega) D1 hp' (hC.2.2.1 c8)
    have er : qDoes r' p c v = qEx r' p (qInHand r' p) v := by
      unfold qDoes
      simp (disch := omega) only [if_neg, if_pos]
    rw [er]
    exact ⟨M2, by rw [e3]; rfl, D2, F1.trans F2⟩
  · rw [if_pos (qB_f c8)]
    have hc7 : c ≤ 7 ∨ c = 12 := by omega
    obtain ⟨hh, -⟩ := hC.2.1 hc7
    obtain ⟨M2, e3, D2, F2⟩ := c_work (g := g) O1 hK D1 hp' hC hc7
    rw [(D1.2.1 p hp'.1 hp'.2).2.1, c_pileAt_in D1.1 (by rw [e2]; exact h2) hh, Option.bind_some, if_neg (by omega)]
    exact ⟨M2, by rw [e3]; rfl, D2, F1.trans F2⟩
end CStep
