/-! PURE: turns and runs of the class beside the reference's -/
section CRun
variable {S : Nat → Bool} {t : gRow} {M M' : gMem} {d : Nat} {r r' : gRow} {K K' : Int} {g : Nat → Nat}
theorem qTS_gov (h : gS2 S) : ∀ (n : Nat) (x : Int) (r : gRow), 1030 ≤ x → qTS n x (gov S t r) = gov S t (qTS n x r) := by
  intro n
  induction n with
  | zero => intro x r _; rfl
  | succ n ih =>
    intro x r hx
    unfold qTS
    rw [gov_f (h.o (by omega)), rup_gov (h.o (by omega)), ih _ _ (by omega)]
theorem qTr1_gov (h : gS2 S) (h5 : 0 ≤ r 5) {p x y : Int} : qTr1 (gov S t r) p x y = gov S t (qTr1 r p x y) := by
  unfold qTr1
  rw [show gov S t r 5 = r 5 from gov_f (h.o (by omega)), show gov S t r 3 = r 3 from gov_f (h.o (by omega)), rup_gov (h.o (by omega)), rup_gov (h.o (by omega)), rup_gov (h.o (by omega)), rup_gov (h.o (by omega)), rup_gov (h.o (by omega))]
theorem qTr_gov2 (h : gS2 S) (h5 : 0 ≤ r 5 ∧ r 5 ≤ 40) {p x y : Int} : qTr (gov S t r) p x y = gov S t (qTr r p x y) := by
  unfold qTr
  rw [show gov S t r 5 = r 5 from gov_f (h.o (by omega))]
  by_cases e : r 5 = 40
  · have e0 : qTr0 (gov S t r) = gov S t (qTr0 r) := by
      unfold qTr0
      rw [qTS_gov h _ _ _ (by omega), show gov S t (qTS 156 1030 r) 5 = qTS 156 1030 r 5 from gov_f (h.o (by omega)), rup_gov (h.o (by omega))]
    have e5 : qTr0 r 5 = 39 := by unfold qTr0; rw [rup_hit (by rfl), qTS_at _ _ _ (by omega), if_neg (by omega), e]; rfl
    rw [if_pos e, if_pos e, e0, qTr1_gov h (by omega)]
  · rw [if_neg e, if_neg e, qTr1_gov h h5.1]
theorem qFault_gov (h : gS2 S) (hO : qOK r K) {p : Int} (hp : 0 ≤ p ∧ p < r 1) (hin : rp r p 2 < rp r p 3) : qFault (gov S t r) p = qFault r p := by
  have h1 := hO.2.1
  have h2 := hO.2.2.1
  have hOp := hO.p hp
  have hpl := hOp.2.2.1
  have h24 := hOp.2.2.2.1
  unfold qFault
  rw [show rp (gov S t r) p 2 = rp r p 2 from rp_gov (h.p hp.1 (by omega) (by omega) (by omega)), show rp (gov S t r) p (18 + rp r p 2) = rp r p (18 + rp r p 2) from rp_gov (h.p hp.1 (by omega) (by omega) (by omega)), show rp (gov S t r) p (42 + rp r p 2) = rp r p (42 + rp r p 2) from rp_gov (h.p hp.1 (by omega) (by omega) (by omega)), qInHand_gov h.s1 h2.2]
  refine qFaultC_congr (rp_gov (h.p hp.1 (by omega) (by omega) (by omega))) (fun hn => ?_)
  rcases qHand_in h2.1 (r := r) p with w | w
  · exact absurd w hn
  · exact ⟨hO.len w.1.1 w.1.2, fun k q1 q2 => rs_gov (h.s1.s w.1.1 (by omega) (by omega))⟩
theorem qBlock_gov (h : gS2 S) (hO : qOK r K) {p : Int} (hp : 0 ≤ p ∧ p < r 1) (hin : rp r p 2 < rp r p 3) : qBlock (gov S t r) p = qBlock r p := by
  have h1 := hO.2.1
  have h2 := hO.2.2.1
  have hOp := hO.p hp
  have hpl := hOp.2.2.1
  have h24 := hOp.2.2.2.1
  unfold qBlock qBlockC
  rw [show rp (gov S t r) p 2 = rp r p 2 from rp_gov (h.p hp.1 (by omega) (by omega) (by omega)), show rp (gov S t r) p (18 + rp r p 2) = rp r p (18 + rp r p 2) from rp_gov (h.p hp.1 (by omega) (by omega) (by omega)), show rp (gov S t r) p (42 + rp r p 2) = rp r p (42 + rp r p 2) from rp_gov (h.p hp.1 (by omega) (by omega) (by omega)), qOnSlot_gov h.s1 h2.2]
theorem qStepR_gov (h : gS2 S) (hO : qOK r K) {p : Int} (hp : 0 ≤ p ∧ p < r 1) : qStepR (gov S t r) p = gov S t (qStepR r p) ∧ qStepB (gov S t r) p = qStepB r p := by
  have h1 := hO.2.1
  have h2 := hO.2.2.1
  have h5 := hO.2.2.2.2.2.1
  have hOp := hO.p hp
  have hpl := hOp.2.2.1
  have h24 := hOp.2.2.2.1
  have h7 := hOp.2.2.2.2.2.2.2.1
  have h8 := hOp.2.2.2.2.2.2.2.2.1
  have e2 : rp (gov S t r) p 2 = rp r p 2 := rp_gov (h.p hp.1 (by omega) (by omega) (by omega))
  have e3 : rp (gov S t r) p 3 = rp r p 3 := rp_gov (h.p hp.1 (by omega) (by omega) (by omega))
  have e7 : qMade (gov S t r) p = gov S t (qMade r p) := by
    unfold qMade rsp
    rw [rp_gov (h.p hp.1 (by omega) (by omega) (by omega)), rup_gov (h.p hp.1 (by omega) (by omega) (by omega))]
  have e8 : qWait (gov S t r) p = gov S t (qWait r p) := by
    unfold qWait rsp
    rw [rp_gov (h.p hp.1 (by omega) (by omega) (by omega)), rup_gov (h.p hp.1 (by omega) (by omega) (by omega))]
  obtain ⟨A1, A2, A3, A4⟩ := qMade_facts (k := 7) (v := rp r p 7 + 1) hO hp (by omega) (by omega)
  obtain ⟨C1, C2, C3, C4⟩ := qMade_facts (k := 8) (v := rp r p 8 + 1) hO hp (by omega) (by omega)
  have a5 : 0 ≤ (qMade r p) 5 ∧ (qMade r p) 5 ≤ 40 := by unfold qMade; rw [A4 5 (by omega)]; exact h5
  have c5 : 0 ≤ (qWait r p) 5 ∧ (qWait r p) 5 ≤ 40 := by unfold qWait; rw [C4 5 (by omega)]; exact h5
  unfold qStepR qStepB
  rw [e2, e3, e7, e8]
  by_cases hin : rp r p 2 < rp r p 3
  · rw [qFault_gov h hO hp hin, qBlock_gov h hO hp hin]
    refine ⟨?_, rfl⟩
    rw [if_pos hin, if_pos hin]
    by_cases hf : qFault r p = 0
    · rw [if_pos hf, if_pos hf]
      by_cases hb : 0 < qBlock r p
      · rw [if_pos hb, if_pos hb, qTr_gov2 h c5]
      · obtain ⟨B1, B2, B3, B4, B5⟩ := qPre_facts hO hp hin
        have hpp : 0 ≤ p ∧ p < (qPre r p) 1 := by rw [B4 1 (by omega)]; exact hp
        have ec : qCmd (gov S t r) p = qCmd r p := by unfold qCmd; rw [e2]; exact rp_gov (h.p hp.1 (by omega) (by omega) (by omega))
        have ev : qOpd (gov S t r) p = qOpd r p := by unfold qOpd; rw [e2]; exact rp_gov (h.p hp.1 (by omega) (by omega) (by omega))
        rw [if_neg hb, if_neg hb, ec, ev, qTr_gov2 h a5]
        rw [show rsp (gov S t (qTr (qMade r p) p (rp r p 2) 0)) p 2 (rp r p 2 + 1) = gov S t (qPre r p) from rup_gov (h.p hp.1 (by omega) (by omega) (by omega))]
        exact qDoes_gov h.s1 B1 hpp (qPre_can hO hp hin hf)
    · rw [if_neg hf, if_neg hf, qTr_gov2 h a5]
      unfold rsp
      rw [rup_gov (h.p hp.1 (by omega) (by omega) (by omega)), rup_gov (h.p hp.1 (by omega) (by omega) (by omega))]
  · rw [if_neg hin, if_neg hin, if_neg (fun z => hin z.1), if_neg (fun z => hin z.1), qTr_gov2 h a5]
    unfold rsp
    rw [rup_gov (h.p hp.1 (by omega) (by omega) (by omega))]
    exact ⟨rfl, rfl⟩
theorem qTurnN_gov (h : gS2 S) {p : Int} : ∀ (n : Nat) (r : gRow) (K : Int), qOK r K → 0 ≤ p ∧ p < r 1 → qTurnN p n (gov S t r) = gov S t (qTurnN p n r) := by
  intro n
  induction n with
  | zero => intro r K _ _; rfl
  | succ n ih =>
    intro r K hO hp
    have h1 := hO.2.1
    obtain ⟨A1, A2⟩ := qStepR_facts hO hp
    obtain ⟨G1, G2⟩ := qStepR_gov (t := t) h hO hp
    unfold qTurnN
    rw [rp_gov (h.p hp.1 (by omega) (by omega) (by omega)), G1, G2]
    by_cases h0 : rp r p 0 = 0
    · rw [if_pos h0, if_pos h0]
      by_cases hb : qStepB r p = 0
      · rw [if_pos hb, if_pos hb]
      · rw [if_neg hb, if_neg hb, ih _ _ A1 (by rw [A2 1 (by omega)]; exact hp)]
    · rw [if_neg h0, if_neg h0]
/-- one place of one process -/
def gOne (p k : Int) : Nat → Bool := fun j => decide (j = (6 + 86 * p + k).toNat)
theorem gOne.s2 {p k : Int} (hp : 0 ≤ p ∧ p < 8) (hk : k = 4 ∨ k = 6) : gS2 (gOne p k) := fun j hj => by
  have := of_decide_eq_true hj
  exact ⟨p.toNat, by omega, by omega⟩
theorem gOne_rsp {p k v : Int} : rsp r p k v = gov (gOne p k) (fun _ => v) r := by
  funext j
  unfold rsp rup gov gOne
  by_cases e : j = (6 + 86 * p + k).toNat
  · rw [if_pos e, if_pos (decide_eq_true e)]
  · rw [if_neg e, if_neg (fun z => e (of_decide_eq_true z))]
theorem qStepR_4 (hO : qOK r K) {p k : Int} (hp : 0 ≤ p ∧ p < r 1) (hk : k = 4 ∨ k = 6) : rp (qStepR r p) p k = rp r p k := by
  have h1 := hO.2.1
  have := (qStepR_gov (t := r) (gOne.s2 (p := p) (by omega) hk) hO hp).1
  rw [gov_self] at this
  rw [this]
  exact gov_t (decide_eq_true rfl)
theorem qTurnN_6 {p : Int} {n : Nat} (hO : qOK r K) (hp : 0 ≤ p ∧ p < r 1) : rp (qTurnN p n r) p 6 = rp r p 6 := by
  have h1 := hO.2.1
  have := qTurnN_gov (t := r) (gOne.s2 (p := p) (k := 6) (by omega) (Or.inr rfl)) n r K hO hp
  rw [gov_self] at this
  rw [this]
  exact gov_t (decide_eq_true rfl)
theorem DR_hd (hO : qOK r K) (hD : DR M d r K) {p v : Int} : DR (gup (gup M d 8 p) d 7 v) d (rup (rup r 4 p) 3 v) K := by
  have h1 := hO.2.1
  have h2 := hO.2.2.1
  have h5 := hO.2.2.2.2.2.1
  obtain ⟨A, B, C, D, E⟩ := hD
  have R : ∀ j : Nat, ¬ j = 3 → ¬ j = 4 → (rup (rup r 4 p) 3 v) j = r j := fun j q1 q2 => by rw [rup_miss (by omega), rup_miss (by omega)]
  have m : ∀ x : Nat, ¬ x = d → gup (gup M d 8 p) d 7 v x = M x := fun x q => by rw [gup_row q, gup_row q]
  refine ⟨⟨?_, ?_, ?_, ?_, ?_⟩, fun q q1 q2 => ?_, fun s q1 q2 => ?_, D.congr (R 0 (by omega) (by omega)) (fun k => qOnSlot_congr (R 2 (by omega) (by omega)) (fun s q1 q2 => R _ (by omega) (by omega))) (m _ (by omega)), E.congr (R 5 (by omega) (by omega)) h5.2 (fun j hj => R j (by omega) (by omega)) (Int.le_refl _) (fun x q1 q2 => m x (by omega))⟩
  · rw [gup_miss (by omega), gup_miss (by omega), R 0 (by omega) (by omega)]; exact A.1
  · rw [gup_miss (by omega), gup_miss (by omega), R 1 (by omega) (by omega)]; exact A.2.1
  · rw [gup_miss (by omega), gup_miss (by omega), R 2 (by omega) (by omega)]; exact A.2.2.1
  · rw [gup_hit rfl rfl]; exact (rup_hit rfl).symm
  · rw [gup_miss (by omega), gup_hit rfl rfl, rup_miss (by omega)]; exact (rup_hit rfl).symm
  · rw [R 1 (by omega) (by omega)] at q2
    have hOp := hO.p ⟨q1, q2⟩
    exact (B q q1 q2).congr (fun k q3 q4 => R _ (by omega) (by omega)) (qInHand_congr (R 2 (by omega) (by omega)) (fun s q1 q2 => R _ (by omega) (by omega))) hOp.2.2.2.1.2 hOp.2.2.2.2.2.2.2.2.2.1.1 (m _ (by omega)) (m _ (by omega)) (m _ (by omega)) (m _ (by omega))
  · rw [R 2 (by omega) (by omega)] at q2
    exact (C s q1 q2).congr (hO.len q1 q2).2 (fun k q3 q4 => R _ (by omega) (by omega)) (m _ (by omega)) (m _ (by omega))
def qTurnH (p : Int) (r : gRow) : gRow := rup (rup r 4 p) 3 (r 3 + 1)
theorem c_t72 (hO : qOK r K) (hK : K ≤ 900000000) (hD : DR M d r K) {p : Int} : ∃ M', fX6_makeTurn_72 g d p M = some M' ∧ DR M' d (qTurnH p r) K ∧ gFr d M M' := by
  have h3 := hO.2.2.2.1
  refine ⟨gup (gup M d 8 p) d 7 (r 3 + 1), ?_, DR_hd hO hD, (gFr.up (by omega)).trans (gFr.up (by omega))⟩
  unfold fX6_makeTurn_72
  have e : gup M d 8 p d 7 = r 3 := by rw [gup_miss (by omega)]; exact hD.1.2.2.2.1
  rw [gst_eq, gst_eq, e, gwi_eq (by omega) (by omega)]
theorem c_turn_lp {p : Int} : ∀ (n : Nat) (r : gRow) (K : Int) (M : gMem) (x : Int) (fu : Nat), qOK r K → K + 3 * n ≤ 800000000 → DR M d r K → 0 ≤ p ∧ p < r 1 → rp r p 0 = 0 → 0 ≤ x → x + n = rp r p 4 → n + 1 < fu → ∃ M', fX6_makeTurn_31 g fu d p (d + 1 + (8 + 4 * p.toNat)) 1 x M = some M' ∧ DR M' d (qTurnH p (qTurnN p n r)) (K + 3 * n) ∧ gFr d M M' := by
  intro n
  induction n with
  | zero =>
    intro r K M x fu hO hK hD hp h0 hx hxn hf
    obtain ⟨fu, rfl⟩ := fuS (show 0 < fu by omega)
    have hP := hD.2.1 p hp.1 hp.2
    obtain ⟨M1, e1, D1, F1⟩ := c_t72 (g := g) (p := p) hO (by omega) hD
    refine ⟨M1, ?_, D1.mono (by omega), F1⟩
    unfold fX6_makeTurn_31
    rw [if_neg (by omega), hP.f.2.2.2.2.1, if_pos (by omega), e1]
  | succ n ih =>
    intro r K M x fu hO hK hD hp h0 hx hxn hf
    obtain ⟨fu, rfl⟩ := fuS (show 0 < fu by omega)
    have hOp := hO.p hp
    have h4 := hOp.2.2.2.2.1
    have hP := hD.2.1 p hp.1 hp.2
    obtain ⟨A1, A2⟩ := qStepR_facts hO hp
    obtain ⟨M1, e1, D1, F1⟩ := c_makeStep (g := g) hO (by omega) hD hp h0
    have hp1 : 0 ≤ p ∧ p < (qStepR r p) 1 := by rw [A2 1 (by omega)]; exact hp
    have hP1 := D1.2.1 p hp1.1 hp1.2
    have A1' := A1.mono (K' := K + 3) (by omega)
    have z : ∀ (y : Int), ∃ M', fX6_makeTurn_31 g fu d p (d + 1 + (8 + 4 * p.toNat)) 0 y M1 = some M' ∧ DR M' d (qTurnH p (qStepR r p)) (K + 3) ∧ gFr d M1 M' := by
      intro y
      obtain ⟨fu, rfl⟩ := fuS (show 0 < fu by omega)
      obtain ⟨M2, e2, D2, F2⟩ := c_t72 (g := g) (p := p) A1' (by omega) D1
      refine ⟨M2, ?_, D2, F2⟩
      unfold fX6_makeTurn_31
      rw [if_pos rfl, e2]
    unfold fX6_makeTurn_31 qTurnN
    rw [if_neg (by omega), hP.f.2.2.2.2.1, if_neg (by omega), e1, Option.bind_some, if_pos h0]
    show ∃ M', (if qStepB r p = 0 then _ else (if M1 (d + 1 + (8 + 4 * p.toNat)) 8 = 0 then _ else _)) = some M' ∧ _
    unfold fX6_makeTurn_64 fX6_makeTurn_65
    rw [hP1.f.1]
    by_cases hb : qStepB r p = 0
    · rw [if_pos hb, if_pos hb, gst_eq]
      obtain ⟨M2, e2, D2, F2⟩ := z (gwi (x + 1))
      exact ⟨M2, e2, D2.mono (by omega), F1.trans F2⟩
    · rw [if_neg hb, if_neg hb, gst_eq]
      by_cases h00 : rp (qStepR r p) p 0 = 0
      · rw [if_pos h00, gwi_eq (by omega) (by omega)]
        obtain ⟨M2, e2, D2, F2⟩ := ih (qStepR r p) (K + 3) M1 (x + 1) fu A1' (by omega) D1 hp1 h00 (by omega) (by rw [qStepR_4 hO hp (Or.inl rfl)]; omega) (by omega)
        exact ⟨M2, e2, D2.mono (by omega), F1.trans F2⟩
      · rw [if_neg h00]
        obtain ⟨M2, e2, D2, F2⟩ := z (gwi (x + 1))
        refine ⟨M2, e2, ?_, F1.trans F2⟩
        have : qTurnN p n (qStepR r p) = qStepR r p := by
          cases n with
          | zero => rfl
          | succ n => unfold qTurnN; rw [if_neg h00]
        rw [this]
        exact D2.mono (by omega)
theorem c_makeTurn (hO : qOK r K) (hK : K ≤ 700000000) (hD : DR M d r K) (hL : ¬ qLive r = -1) : ∃ M', fX6_makeTurn g d M = some M' ∧ DR M' d (qTurn r) (K + 40) ∧ gFr d M M' := by
  have h1 := hO.2.1
  obtain ⟨hn, h0⟩ := qNext_in hO hL
  unfold fX6_makeTurn qTurn
  rw [c_next hO hD, Option.bind_some, c_procAt_in hD.1 h1 hn, Option.bind_some, if_neg (by omega)]
  generalize qNext r = p at hn h0 ⊢
  have hOp := hO.p hn
  have h4 := hOp.2.2.2.2.1
  have h6 := hOp.2.2.2.2.2.2.1
  have hP := hD.2.1 p hn.1 hn.2
  obtain ⟨A1, A2, A3, A4⟩ := qMade_facts (k := 6) (v := rp r p 6 + 1) hO hn (by omega) (by omega)
  have D6 := DR_p (k := 6) (v := rp r p 6 + 1) (K' := K + 1) hO hD hn (by omega) (by omega)
  have c6 : cf 6 = 11 := by decide
  rw [c6] at D6
  rw [gst_eq, hP.f.2.2.2.2.2.2.1, gwi_eq (by omega) (by omega)]
  obtain ⟨M2, e2, D2, F2⟩ := c_turn_lp (g := g) (p := p) (rp r p 4).toNat (rsp r p 6 (rp r p 6 + 1)) (K + 1) _ 0 gF A1 (by omega) D6 (by rw [A4 1 (by omega)]; exact hn) (by rw [A2 p 0 hn.1 (by omega) (by omega) (by omega) (by omega)]; exact h0) (Int.le_refl 0) (by rw [A2 p 4 hn.1 (by omega) (by omega) (by omega) (by omega)]; omega) (by unfold gF; omega)
  refine ⟨M2, e2, ?_, (gFr.up (by omega)).trans F2⟩
  have eT : qTurnN p (rp r p 4).toNat (rsp r p 6 (rp r p 6 + 1)) = rsp (qTurnN p (rp r p 4).toNat r) p 6 (rp r p 6 + 1) := by
    rw [gOne_rsp, qTurnN_gov (gOne.s2 (by omega) (Or.inr rfl)) _ r K hO hn, ← gOne_rsp]
  have eE : qTurnE p (qTurnN p (rp r p 4).toNat r) = qTurnH p (qTurnN p (rp r p 4).toNat (rsp r p 6 (rp r p 6 + 1))) := by
    unfold qTurnE qTurnH
    rw [eT, qTurnN_6 hO hn, show (rsp (qTurnN p (rp r p 4).toNat r) p 6 (rp r p 6 + 1)) 3 = (qTurnN p (rp r p 4).toNat r) 3 from rsp_lo hn.1 (by omega) (by omega)]
  rw [eE]
  exact D2.mono (by omega)
theorem c_goes_lp : ∀ (n : Nat) (x : Int) (r : gRow) (K : Int) (M : gMem) (fu : Nat), qOK r K → K + 40 * n ≤ 700000000 → DR M d r K → 0 ≤ x → x + n ≤ 1000000 → n < fu → ∃ M', fX6_advance_2 g fu d (x + n) x M = some ((qGoesN n x r).1, M') ∧ DR M' d (qGoesN n x r).2 (K + 40 * n) ∧ qOK (qGoesN n x r).2 (K + 40 * n) ∧ gFr d M M' := by
  intro n
  induction n with
  | zero =>
    intro x r K M fu hO hK hD hx hxn hf
    obtain ⟨fu, rfl⟩ := fuS hf
    unfold fX6_advance_2 qGoesN
    rw [if_pos (by omega)]
    exact ⟨M, rfl, hD.mono (by omega), hO.mono (by omega), gFr.rfl'⟩
  | succ n ih =>
    intro x r K M fu hO hK hD hx hxn hf
    obtain ⟨fu, rfl⟩ := fuS hf
    unfold fX6_advance_2 qGoesN
    rw [if_neg (by omega), c_isOver hO hD, Option.bind_some]
    by_cases hL : qLive r = -1
    · rw [if_neg (by rw [qB_t hL]; omega), if_pos hL]
      exact ⟨M, rfl, hD.mono (by omega), hO.mono (by omega), gFr.rfl'⟩
    · have hT := qTurn_OK hO hL
      obtain ⟨M1, e1, D1, F1⟩ := c_makeTurn (g := g) hO (by omega) hD hL
      rw [if_pos (qB_f hL), if_neg hL, e1, Option.bind_some, gst_eq, gwi_eq (by omega) (by omega)]
      rw [show x + ((n + 1 : Nat) : Int) = (x + 1) + n by omega]
      obtain ⟨M2, e2, D2, O2, F2⟩ := ih (x + 1) _ (K + 40) M1 fu (hT.1.mono (by omega)) (by omega) D1 (by omega) (by omega) (by omega)
      exact ⟨M2, e2, D2.mono (by omega), O2.mono (by omega), F1.trans F2⟩
theorem c_advance (hO : qOK r K) (hK : K ≤ 90000000) (hD : DR M d r K) {n : Int} (hn : n ≤ 15000) : ∃ M', fX6_advance g d n M = some ((qGoes r n).1, M') ∧ DR M' d (qGoes r n).2 (K + 40 * n.toNat) ∧ qOK (qGoes r n).2 (K + 40 * n.toNat) ∧ gFr d M M' := by
  unfold fX6_advance qGoes
  by_cases h0 : 0 ≤ n
  · have := c_goes_lp (g := g) (d := d) n.toNat 0 r K M gF hO (by omega) hD (by omega) (by omega) (by unfold gF; omega)
    rw [show (0 : Int) + (n.toNat : Int) = n by omega] at this
    exact this
  · have e : n.toNat = 0 := by omega
    rw [e]
    have : gF = 19999 + 1 := rfl
    rw [this]
    unfold fX6_advance_2 qGoesN
    rw [if_pos (by omega)]
    exact ⟨M, rfl, hD.mono (by omega), hO.mono (by omega), gFr.rfl'⟩
end CRun
