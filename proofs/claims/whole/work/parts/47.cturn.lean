/-! PURE: the class's turn beside the reference's -/
section CTurn
variable {M M' : gMem} {d : Nat} {r r' : gRow} {K K' : Int} {g : Nat → Nat}
theorem c_makeStep (hO : qOK r K) (hK : K ≤ 800000000) (hD : DR M d r K) {p : Int} (hp : 0 ≤ p ∧ p < r 1) (hrd : rp r p 0 = 0) : ∃ M', fX6_makeStep g d p (d + 1 + (8 + 4 * p.toNat)) M = some (qStepB r p, M') ∧ DR M' d (qStepR r p) (K + 3) ∧ gFr d M M' := by
  have h1 := hO.2.1
  have h2 := hO.2.2.1
  have h5 := hO.2.2.2.2.2.1
  have hOp := hO.p hp
  have hpl := hOp.2.2.1
  have h24 := hOp.2.2.2.1
  have h7 := hOp.2.2.2.2.2.2.2.1
  have h8 := hOp.2.2.2.2.2.2.2.2.1
  have hP := hD.2.1 p hp.1 hp.2
  have hp8 : 0 ≤ p ∧ p < 8 := by omega
  have hfr := qFault_rng (r := r) (p := p)
  have hbr := qBlock_rng (r := r) (p := p)
  obtain ⟨A1, A2, A3, A4⟩ := qMade_facts (k := 7) (v := rp r p 7 + 1) hO hp (by omega) (by omega)
  obtain ⟨C1, C2, C3, C4⟩ := qMade_facts (k := 8) (v := rp r p 8 + 1) hO hp (by omega) (by omega)
  have D7 := DR_p (k := 7) (v := rp r p 7 + 1) (K' := K + 1) hO hD hp (by omega) (by omega)
  have D8 := DR_p (k := 8) (v := rp r p 8 + 1) (K' := K + 1) hO hD hp (by omega) (by omega)
  have F7 : gFr d M (gup M (d + 1 + (8 + 4 * p.toNat)) 12 (rp r p 7 + 1)) := gFr.up (by omega)
  have F8 : gFr d M (gup M (d + 1 + (8 + 4 * p.toNat)) 13 (rp r p 8 + 1)) := gFr.up (by omega)
  have c7 : cf 7 = 12 := by decide
  have c8 : cf 8 = 13 := by decide
  have c0 : cf 0 = 8 := by decide
  have c1 : cf 1 = 9 := by decide
  rw [c7] at D7
  rw [c8] at D8
  have hp7 : 0 ≤ p ∧ p < (rsp r p 7 (rp r p 7 + 1)) 1 := by rw [A4 1 (by omega)]; exact hp
  have hF := c_faultOf (g := g) A1 D7 hp7
  rw [qFault_cnt hO hp (by omega) hp, A2 p 2 hp.1 hp8.2 (by omega) (by omega) (by omega), A2 p 3 hp.1 hp8.2 (by omega) (by omega) (by omega)] at hF
  unfold fX6_makeStep
  rw [hP.f.2.2.1]
  by_cases hin : rp r p 2 < rp r p 3
  · have hcv := hOp.2.2.2.2.2.2.2.2.2.2 (rp r p 2) hpl.1 hin
    rw [c_kindAt_in hP h24.2 ⟨hpl.1, hin⟩, Option.bind_some, if_neg (by omega)]
    unfold fX6_makeStep_20
    rw [c_waitReason hO hD hp, Option.bind_some]
    by_cases hf : qFault r p = 0
    · have hq : qStuck r p = qBlock r p := if_pos ⟨hrd, hin, by omega⟩
      rw [hq]
      by_cases hb : 0 < qBlock r p
      · have D8' := D8
        obtain ⟨M2, e2, E2, F2⟩ := c_add (g := g) (p := p) (x := rp r p 2) (y := 1) C1 (by omega) D8
        have eb : qStepB r p = 0 := if_pos ⟨hin, hf, hb⟩
        have er : qStepR r p = qTr (rsp r p 8 (rp r p 8 + 1)) p (rp r p 2) 1 := by unfold qStepR; rw [if_pos hin, if_pos hf, if_pos hb]; rfl
        rw [if_neg (by omega), hP.f.2.2.2.2.2.2.2.2.1, gst_eq, gwi_eq (by omega) (by omega), D8.1.2.2.2.1, e2, eb, er]
        exact ⟨M2, rfl, E2.mono (by omega), F8.trans F2⟩
      · have eb : qStepB r p = 1 := if_neg (fun z => hb z.2.2)
        have er : qStepR r p = qDoes (qPre r p) p (qCmd r p) (qOpd r p) := by unfold qStepR; rw [if_pos hin, if_pos hf, if_neg hb]; rfl
        rw [if_pos (by omega), hP.f.2.2.2.2.2.2.2.1, gst_eq, gwi_eq (by omega) (by omega), hF, Option.bind_some, if_pos hin, if_pos hf, eb, er]
        generalize hr' : rsp r p 7 (rp r p 7 + 1) = r' at *
        have m2 : rp r' p 2 = rp r p 2 := A2 p 2 hp.1 hp8.2 (by omega) (by omega) (by omega)
        have m3 : rp r' p 3 = rp r p 3 := A2 p 3 hp.1 hp8.2 (by omega) (by omega) (by omega)
        have mc : qCmd r p = rp r' p (18 + rp r' p 2) := by unfold qCmd; rw [m2]; exact (A2 p _ hp.1 hp8.2 (by omega) (by omega) (by omega)).symm
        have mv : qOpd r p = rp r' p (42 + rp r' p 2) := by unfold qOpd; rw [m2]; exact (A2 p _ hp.1 hp8.2 (by omega) (by omega) (by omega)).symm
        -- the row the class works on, without the trace
        have O2 : qOK (rsp r' p 2 (rp r' p 2 + 1)) (K + 1) := qOK_rsp A1 (Int.le_refl _) hp7 (by unfold qVal; omega)
        have q0 : ∀ j : Nat, j < 6 → (rsp r' p 2 (rp r' p 2 + 1)) j = r j := fun j hj => (rsp_lo hp.1 (by omega) hj).trans (A4 j hj)
        have qs : ∀ s k : Int, 0 ≤ s → s < 12 → 0 ≤ k → k < 21 → rs (rsp r' p 2 (rp r' p 2 + 1)) s k = rs r s k := fun s k q1 q2 q3 q4 => (rs_rsp hp8 q1 (by omega) q3).trans (A3 s k q1 q2 q3 q4)
        have hC : qCan (rsp r' p 2 (rp r' p 2 + 1)) p (qCmd r p) (qOpd r p) := (qCan_of hO hp hin hf).congr h2 (q0 0 (by omega)) (q0 2 (by omega)) (fun s k q1 q2 q3 q4 => qs s k q1 (by omega) q3 q4) (fun s q1 q2 => hO.len q1 q2)
        have hp2 : 0 ≤ p ∧ p < (rsp r' p 2 (rp r' p 2 + 1)) 1 := by rw [q0 1 (by omega)]; exact hp
        obtain ⟨M2, e2, D2, F2⟩ := c_carryOut (g := g) A1 (by omega) D7 hp7 (by rw [m2, m3]; exact hin) mc mv hC
        have O3 := qDoes_OK O2 hp2 hC (fun _ => by rw [show rp (rsp r' p 2 (rp r' p 2 + 1)) p 2 = rp r' p 2 + 1 from rp_rsp_eq, m2]; omega)
        obtain ⟨M3, e3, D3, F3⟩ := c_add (g := g) (p := p) (x := rp r p 2) (y := 0) O3 (by omega) D2
        have off := fun j (hj : gST' j = true) => qDoes_off O2 hp2 hC gST'.s1 hj
        have lo := fun j hj => qDoes_lo O2 hp2 hC j hj
        have er2 : qDoes (qPre r p) p (qCmd r p) (qOpd r p) = qTr (qDoes (rsp r' p 2 (rp r' p 2 + 1)) p (qCmd r p) (qOpd r p)) p (rp r p 2) 0 := by
          have a5 : 0 ≤ r' 5 ∧ r' 5 ≤ 40 := by rw [A4 5 (by omega)]; exact h5
          rw [qTr_late (a := r') a5 (by rw [lo 5 (by omega), q0 5 (by omega), A4 5 (by omega)]) (by rw [lo 3 (by omega), q0 3 (by omega), A4 3 (by omega)]) (fun j hj => by
            rw [off j (decide_eq_true (Or.inr hj))]
            exact (rsp_hi hp8 (by omega) (by omega)).symm), ← qDoes_gov gST'.s1 O2 hp2 hC]
          congr 1
          unfold qPre qMade
          have hT : qTr r' p (rp r p 2) 0 = gov gST' (qTr r' p (rp r p 2) 0) r' := qTr_gov a5
          rw [hr', m2]
          generalize qTr r' p (rp r p 2) 0 = T at hT ⊢
          exact (show rsp T p 2 (rp r p 2 + 1) = rsp (gov gST' T r') p 2 (rp r p 2 + 1) by rw [← hT]).trans (rup_gov (gST'.s1.p hp8.1 hp8.2 (by omega) (by omega)))
        have e7 : M2 d 7 = (qDoes (rsp r' p 2 (rp r' p 2 + 1)) p (qCmd r p) (qOpd r p)) 3 := D2.1.2.2.2.1
        rw [e2, Option.bind_some, e7, e3, er2]
        exact ⟨M3, rfl, D3.mono (by omega), (F7.trans F2).trans F3⟩
    · have eb : qStepB r p = 1 := if_neg (fun z => hf z.2.1)
      have er : qStepR r p = rsp (rsp (qTr (qMade r p) p (rp r p 2) (10 + qFault r p)) p 0 2) p 1 (qFault r p) := by unfold qStepR; rw [if_pos hin, if_neg hf]
      have hq : qStuck r p = 0 := if_neg (fun z => hf (by have := z.2.2; omega))
      rw [hq, if_pos rfl, hP.f.2.2.2.2.2.2.2.1, gst_eq, gwi_eq (by omega) (by omega), hF, Option.bind_some, if_pos hin, if_neg hf, eb, er]
      have E1 := DR_p (k := 0) (v := 2) (K' := K + 1) A1 D7 hp7 (by omega) (Int.le_refl _)
      have G1 := qOK_rsp (k := 0) (v := 2) A1 (Int.le_refl _) hp7 (by unfold qVal; omega)
      have hp9 : 0 ≤ p ∧ p < (rsp (rsp r p 7 (rp r p 7 + 1)) p 0 2) 1 := by rw [show (rsp (rsp r p 7 (rp r p 7 + 1)) p 0 2) 1 = (rsp r p 7 (rp r p 7 + 1)) 1 from rsp_lo hp.1 (by omega) (by omega)]; exact hp7
      have E2 := DR_p (k := 1) (v := qFault r p) (K' := K + 1) G1 E1 hp9 (by omega) (Int.le_refl _)
      have G2 := qOK_rsp (k := 1) (v := qFault r p) G1 (Int.le_refl _) hp9 (by unfold qVal; omega)
      rw [c0, c1] at E2
      obtain ⟨M3, e3, D3, F3⟩ := c_add (g := g) (p := p) (x := rp r p 2) (y := 10 + qFault r p) G2 (by omega) E2
      have e7 := E2.1.2.2.2.1
      have er2 : rsp (rsp (qTr (qMade r p) p (rp r p 2) (10 + qFault r p)) p 0 2) p 1 (qFault r p) = qTr (rsp (rsp (rsp r p 7 (rp r p 7 + 1)) p 0 2) p 1 (qFault r p)) p (rp r p 2) (10 + qFault r p) := by
        have a5 : 0 ≤ (qMade r p) 5 ∧ (qMade r p) 5 ≤ 40 := by unfold qMade; rw [A4 5 (by omega)]; exact h5
        rw [qTr_late (a := qMade r p) (b := rsp (rsp (rsp r p 7 (rp r p 7 + 1)) p 0 2) p 1 (qFault r p)) a5 ((rsp_lo hp.1 (by omega) (by omega)).trans (rsp_lo hp.1 (by omega) (by omega))).symm ((rsp_lo hp.1 (by omega) (by omega)).trans (rsp_lo hp.1 (by omega) (by omega))).symm (fun j hj => ((rsp_hi hp8 (by omega) (by omega)).trans (rsp_hi hp8 (by omega) (by omega))).symm), qTr_gov (r := qMade r p) a5]
        unfold rsp
        rw [rup_gov (gST'.s1.p hp8.1 hp8.2 (by omega) (by omega)), rup_gov (gST'.s1.p hp8.1 hp8.2 (by omega) (by omega)), ← qTr_gov (r := qMade r p) a5]
        rfl
      refine ⟨M3, ?_, by rw [er2]; exact D3.mono (by omega), F7.trans ((gFr.up (by omega)).trans ((gFr.up (by omega)).trans F3))⟩
      rw [gst_eq, gst_eq, e7, gwi_eq (by omega) (by omega), e3]
      rfl
  · have eb : qStepB r p = 1 := if_neg (fun z => hin z.1)
    have er : qStepR r p = rsp (qTr (qMade r p) p (-1) 0) p 0 1 := by unfold qStepR; rw [if_neg hin]
    rw [c_kindAt_out hP h24.2 (by omega), Option.bind_some, if_pos rfl]
    unfold fX6_makeStep_20
    have hq : qStuck r p = 0 := if_neg (fun z => hin z.2.1)
    rw [c_waitReason hO hD hp, Option.bind_some, hq, if_pos rfl, hP.f.2.2.2.2.2.2.2.1, gst_eq, gwi_eq (by omega) (by omega), hF, Option.bind_some, if_neg hin, if_pos rfl, eb, er]
    obtain ⟨M2, e2, D2, F2⟩ := c_carryEnd (g := g) A1 D7 hp7 (by rw [A2 p 2 hp.1 hp8.2 (by omega) (by omega) (by omega), A2 p 3 hp.1 hp8.2 (by omega) (by omega) (by omega)]; exact hin)
    have G1 := qOK_rsp (k := 0) (v := 1) A1 (Int.le_refl _) hp7 (by unfold qVal; omega)
    obtain ⟨M3, e3, D3, F3⟩ := c_add (g := g) (p := p) (x := -1) (y := 0) G1 (by omega) D2
    have e7 := D2.1.2.2.2.1
    have er2 : rsp (qTr (qMade r p) p (-1) 0) p 0 1 = qTr (rsp (rsp r p 7 (rp r p 7 + 1)) p 0 1) p (-1) 0 := by
      have a5 : 0 ≤ (qMade r p) 5 ∧ (qMade r p) 5 ≤ 40 := by unfold qMade; rw [A4 5 (by omega)]; exact h5
      rw [qTr_late (a := qMade r p) (b := rsp (rsp r p 7 (rp r p 7 + 1)) p 0 1) a5 (rsp_lo hp.1 (by omega) (by omega)).symm (rsp_lo hp.1 (by omega) (by omega)).symm (fun j hj => (rsp_hi hp8 (by omega) (by omega)).symm), qTr_gov (r := qMade r p) a5]
      unfold rsp
      rw [rup_gov (gST'.s1.p hp8.1 hp8.2 (by omega) (by omega)), ← qTr_gov (r := qMade r p) a5]
      rfl
    refine ⟨M3, ?_, by rw [er2]; exact D3.mono (by omega), (F7.trans F2).trans F3⟩
    rw [e2, Option.bind_some, e7, e3]
    rfl
end CTurn
