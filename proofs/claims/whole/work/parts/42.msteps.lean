/-! PURE: steps, turns and runs of the reference -/
def qTurnN (p : Int) : Nat → gRow → gRow
  | 0, r => r
  | n + 1, r => if rp r p 0 = 0 then (if qStepB r p = 0 then qStepR r p else qTurnN p n (qStepR r p)) else r
def qTurnE (p : Int) (r : gRow) : gRow := rup (rup (rsp r p 6 (rp r p 6 + 1)) 4 p) 3 (r 3 + 1)
def qTurn (r : gRow) : gRow := qTurnE (qNext r) (qTurnN (qNext r) (rp r (qNext r) 4).toNat r)
def qGoesN : Nat → Int → gRow → Int × gRow
  | 0, x, r => (x, r)
  | n + 1, x, r => if qLive r = -1 then (x, r) else qGoesN n (x + 1) (qTurn r)
def qGoes (r : gRow) (n : Int) : Int × gRow := qGoesN n.toNat 0 r
section MSteps
variable {g : Nat → Nat} {a : Nat} {M : gMem} {r : gRow} {K : Int}
theorem qOK_tr' {p x y : Int} (hO : qOK r K) : qOK (qTr r p x y) K ∧ (∀ q k : Int, 0 ≤ q → q < 8 → 0 ≤ k → k < 86 → rp (qTr r p x y) q k = rp r q k) ∧ (∀ s k : Int, 0 ≤ s → s < 12 → 0 ≤ k → k < 21 → rs (qTr r p x y) s k = rs r s k) ∧ ∀ j : Nat, j < 5 → (qTr r p x y) j = r j :=
  ⟨qOK_tr hO, fun q k q1 q2 q3 q4 => qTr_off hO.2.2.2.2.2.1 _ (by omega) (by omega), fun q k q1 q2 q3 q4 => qTr_off hO.2.2.2.2.2.1 _ (by omega) (by omega), fun j q1 => qTr_off hO.2.2.2.2.2.1 _ (by omega) (by omega)⟩
/-- a row in which the process p is counted on: what its step begins from -/
theorem qMade_facts {p k v : Int} (hO : qOK r K) (hp : 0 ≤ p ∧ p < r 1) (hk : 6 ≤ k ∧ k ≤ 9) (hv : 0 ≤ v ∧ v ≤ K + 1) : qOK (rsp r p k v) (K + 1) ∧ (∀ q j : Int, 0 ≤ q → q < 8 → 0 ≤ j → j < 86 → ¬ (q = p ∧ j = k) → rp (rsp r p k v) q j = rp r q j) ∧ (∀ s j : Int, 0 ≤ s → s < 12 → 0 ≤ j → j < 21 → rs (rsp r p k v) s j = rs r s j) ∧ ∀ j : Nat, j < 6 → (rsp r p k v) j = r j := by
  have h1 := hO.2.1
  refine ⟨qOK_rsp hO (by omega) hp (by unfold qVal; omega), fun q j q1 q2 q3 q4 q5 => ?_, fun s j q1 q2 q3 q4 => rs_rsp (by omega) q1 (by omega) q3, fun j q1 => rsp_lo (by omega) (by omega) q1⟩
  simp (disch := omega) only [rp_rsp_ne]
/-- the row from which a command is done -/
def qPre (r : gRow) (p : Int) : gRow := rsp (qTr (qMade r p) p (rp r p 2) 0) p 2 (rp r p 2 + 1)
theorem qPre_facts {p : Int} (hO : qOK r K) (hp : 0 ≤ p ∧ p < r 1) (hin : rp r p 2 < rp r p 3) : qOK (qPre r p) (K + 1) ∧ (∀ q j : Int, 0 ≤ q → q < 8 → 0 ≤ j → j < 86 → ¬ (q = p ∧ j = 7) → ¬ (q = p ∧ j = 2) → rp (qPre r p) q j = rp r q j) ∧ (∀ s j : Int, 0 ≤ s → s < 12 → 0 ≤ j → j < 21 → rs (qPre r p) s j = rs r s j) ∧ (∀ j : Nat, j < 5 → (qPre r p) j = r j) ∧ rp (qPre r p) p 2 = rp r p 2 + 1 := by
  have h1 := hO.2.1
  have hOp := hO.p hp
  have hpl := hOp.2.2.1
  have h24 := hOp.2.2.2.1
  have h7 := hOp.2.2.2.2.2.2.2.1
  obtain ⟨A1, A2, A3, A4⟩ := qMade_facts (k := 7) (v := rp r p 7 + 1) hO hp (by omega) (by omega)
  obtain ⟨B1, B2, B3, B4⟩ := qOK_tr' (p := p) (x := rp r p 2) (y := 0) A1
  unfold qPre qMade
  refine ⟨qOK_rsp B1 (Int.le_refl _) ?_ (by unfold qVal; omega), fun q j q1 q2 q3 q4 q5 q6 => ?_, fun s j q1 q2 q3 q4 => ?_, fun j q1 => ?_, rp_rsp_eq⟩
  · rw [B4 1 (by omega), A4 1 (by omega)]; exact hp
  · rw [← A2 q j q1 q2 q3 q4 q5, ← B2 q j q1 q2 q3 q4]
    simp (disch := omega) only [rp_rsp_ne]
  · rw [← A3 s j q1 q2 q3 q4, ← B3 s j q1 q2 q3 q4]
    exact rs_rsp (by omega) q1 (by omega) q3
  · rw [← A4 j (by omega), ← B4 j q1]
    exact rsp_lo (by omega) (by omega) (by omega)
theorem qPre_can {p : Int} (hO : qOK r K) (hp : 0 ≤ p ∧ p < r 1) (hin : rp r p 2 < rp r p 3) (hf : qFault r p = 0) : qCan (qPre r p) p (qCmd r p) (qOpd r p) := by
  obtain ⟨A1, A2, A3, A4, A5⟩ := qPre_facts hO hp hin
  have h2 := hO.2.2.1
  exact (qCan_of hO hp hin hf).congr h2 (A4 0 (by omega)) (A4 2 (by omega)) (fun s k q1 q2 q3 q4 => A3 s k q1 (by omega) q3 q4) (fun s q1 q2 => hO.len q1 q2)
theorem m_steps (hO : qOK r K) (hK : K ≤ 900000000) {p : Int} (hp : 0 ≤ p ∧ p < r 1) : fX9_steps g a p (mrow M (a + 1) r) = some (qStepB r p, mrow M (a + 1) (qStepR r p)) := by
  have h1 := hO.2.1
  have h2 := hO.2.2.1
  have h5 := hO.2.2.2.2.2.1
  have hp8 : 0 ≤ p ∧ p < 8 := by omega
  have hOp := hO.p hp
  have hpl := hOp.2.2.1
  have h24 := hOp.2.2.2.1
  have h7 := hOp.2.2.2.2.2.2.2.1
  have h8 := hOp.2.2.2.2.2.2.2.2.1
  have hfr := qFault_rng (r := r) (p := p)
  obtain ⟨A1, A2, A3, A4⟩ := qMade_facts (k := 7) (v := rp r p 7 + 1) hO hp (by omega) (by omega)
  obtain ⟨C1, C2, C3, C4⟩ := qMade_facts (k := 8) (v := rp r p 8 + 1) hO hp (by omega) (by omega)
  have T7 : ∀ x y : Int, fX9_traces g a p x y (mrow M (a + 1) (qMade r p)) = some (mrow M (a + 1) (qTr (qMade r p) p x y)) := fun x y => m_traces (by unfold qMade; rw [A4 5 (by omega)]; exact h5)
  have T8 : ∀ x y : Int, fX9_traces g a p x y (mrow M (a + 1) (qWait r p)) = some (mrow M (a + 1) (qTr (qWait r p) p x y)) := fun x y => m_traces (by unfold qWait; rw [C4 5 (by omega)]; exact h5)
  have S80 : ∀ (z e : Int), (e = 0 ∨ e = 1) → (0 ≤ z ∧ z ≤ 6) → fX9_steps_80 g a p (rp r p 2) e z (mrow M (a + 1) r) = fX9_steps_121 g a p (rp r p 2) e z a p (if e = 0 then rp r p 2 else -1) (if z = 0 then 0 else 10 + z) (mrow M (a + 1) (qMade r p)) := by
    intro z e he hz
    unfold fX9_steps_80 fX9_steps_107
    simp (disch := omega) only [m_of, m_sets, Option.bind_some, gwi_eq]
    have hq : qMade r p = rsp r p 7 (rp r p 7 + 1) := rfl
    rw [← hq]
    by_cases e0 : e = 0
    · rw [if_pos e0, if_pos e0]
      by_cases z0 : z = 0
      · rw [if_pos (by omega), if_pos z0]
      · rw [if_neg (by omega), if_neg z0]
    · rw [if_neg e0, if_neg e0]
      by_cases z0 : z = 0
      · rw [if_pos (by omega), if_pos z0]
      · rw [if_neg (by omega), if_neg z0]
  unfold fX9_steps qStepB qStepR
  rw [m_of hp8 (by omega), Option.bind_some, m_of hp8 (by omega), Option.bind_some]
  by_cases hin : rp r p 2 < rp r p 3
  · rw [if_pos hin, if_pos hin]
    unfold fX9_steps_22
    rw [if_pos rfl, m_faultOf h2 hp8 (by omega) (hO.hand p), Option.bind_some]
    show fX9_steps_36 g a p (rp r p 2) 0 (qFault r p) (mrow M (a + 1) r) = _
    unfold fX9_steps_36
    rw [if_pos rfl]
    by_cases hf : qFault r p = 0
    · rw [if_pos hf, if_pos hf, m_blockOf h2 hp8 (by omega), Option.bind_some]
      show (if qBlock r p ≤ 0 then _ else _) = _
      by_cases hb : 0 < qBlock r p
      · rw [if_neg (by omega), if_pos hb, if_pos ⟨hin, hf, hb⟩]
        simp (disch := omega) only [m_of, m_sets, Option.bind_some, gwi_eq]
        have hq : qWait r p = rsp r p 8 (rp r p 8 + 1) := rfl
        rw [← hq, T8, Option.bind_some]
      · rw [if_pos (by omega), if_neg hb, if_neg (fun z => hb z.2.2), S80 _ 0 (Or.inl rfl) (by omega), hf]
        unfold fX9_steps_121
        obtain ⟨B1, B2, B3, B4, B5⟩ := qPre_facts hO hp hin
        have hcv := hOp.2.2.2.2.2.2.2.2.2.2 (rp r p 2) hpl.1 hin
        have hC := qPre_can hO hp hin hf
        have hS : fX9_sets g a p 2 (rp r p 2 + 1) (mrow M (a + 1) (qTr (qMade r p) p (rp r p 2) 0)) = some (mrow M (a + 1) (qPre r p)) := m_sets hp8 (by omega)
        have hc : rp (qPre r p) p (18 + rp r p 2) = qCmd r p := B2 p _ hp8.1 hp8.2 (by omega) (by omega) (by omega) (by omega)
        have hv : rp (qPre r p) p (42 + rp r p 2) = qOpd r p := B2 p _ hp8.1 hp8.2 (by omega) (by omega) (by omega) (by omega)
        have hpp : 0 ≤ p ∧ p < (qPre r p) 1 := by rw [B4 1 (by omega)]; exact hp
        simp (disch := omega) only [if_pos, T7, Option.bind_some, gwi_eq, hS, m_of, hc, hv]
        rw [m_does B1 (by omega) hpp hC, Option.bind_some]
        rfl
    · rw [if_neg hf, if_neg hf, if_neg (fun z => hf z.2.1), S80 _ 0 (Or.inl rfl) (by omega)]
      unfold fX9_steps_121
      simp (disch := omega) only [if_pos, if_neg, T7, Option.bind_some, m_sets, if_true]
  · rw [if_neg hin, if_neg hin, if_neg (fun z => hin z.1)]
    unfold fX9_steps_22
    rw [if_neg (by omega)]
    unfold fX9_steps_36
    rw [if_neg (by omega), S80 0 1 (Or.inr rfl) (by omega)]
    unfold fX9_steps_121
    simp (disch := omega) only [if_pos, if_neg, T7, Option.bind_some, m_sets, if_true]
theorem qStepR_facts (hO : qOK r K) {p : Int} (hp : 0 ≤ p ∧ p < r 1) : qOK (qStepR r p) (K + 2) ∧ ∀ j : Nat, j < 5 → (qStepR r p) j = r j := by
  have h1 := hO.2.1
  have hOp := hO.p hp
  have hpl := hOp.2.2.1
  have h7 := hOp.2.2.2.2.2.2.2.1
  have h8 := hOp.2.2.2.2.2.2.2.2.1
  have hfr := qFault_rng (r := r) (p := p)
  obtain ⟨A1, A2, A3, A4⟩ := qMade_facts (k := 7) (v := rp r p 7 + 1) hO hp (by omega) (by omega)
  obtain ⟨C1, C2, C3, C4⟩ := qMade_facts (k := 8) (v := rp r p 8 + 1) hO hp (by omega) (by omega)
  unfold qStepR
  by_cases hin : rp r p 2 < rp r p 3
  · rw [if_pos hin]
    by_cases hf : qFault r p = 0
    · rw [if_pos hf]
      by_cases hb : 0 < qBlock r p
      · rw [if_pos hb]
        obtain ⟨B1, B2, B3, B4⟩ := qOK_tr' (p := p) (x := rp r p 2) (y := 1) C1
        exact ⟨B1.mono (by omega), fun j hj => (B4 j hj).trans (C4 j (by omega))⟩
      · rw [if_neg hb]
        obtain ⟨B1, B2, B3, B4, B5⟩ := qPre_facts hO hp hin
        have hC := qPre_can hO hp hin hf
        have hpp : 0 ≤ p ∧ p < (qPre r p) 1 := by rw [B4 1 (by omega)]; exact hp
        refine ⟨(qDoes_OK B1 hpp hC (fun _ => by rw [B5]; omega)).mono (by omega), fun j hj => (qDoes_lo B1 hpp hC j (by omega)).trans (B4 j hj)⟩
    · rw [if_neg hf]
      obtain ⟨B1, B2, B3, B4⟩ := qOK_tr' (p := p) (x := rp r p 2) (y := 10 + qFault r p) A1
      have hpp : 0 ≤ p ∧ p < (qTr (qMade r p) p (rp r p 2) (10 + qFault r p)) 1 := by unfold qMade; rw [B4 1 (by omega), A4 1 (by omega)]; exact hp
      have D := qOK_rsp (k := 0) (v := 2) B1 (Int.le_refl _) hpp (by unfold qVal; omega)
      have e1 : (rsp (qTr (qMade r p) p (rp r p 2) (10 + qFault r p)) p 0 2) 1 = (qTr (qMade r p) p (rp r p 2) (10 + qFault r p)) 1 := rsp_lo (by omega) (by omega) (by omega)
      refine ⟨qOK_rsp D (by omega) (by rw [e1]; exact hpp) (by unfold qVal; omega), fun j hj => ?_⟩
      rw [show ∀ (q : gRow) (k v : Int), 0 ≤ k → (rsp q p k v) j = q j from fun q k v h => rsp_lo (by omega) h (by omega), show ∀ (q : gRow) (k v : Int), 0 ≤ k → (rsp q p k v) j = q j from fun q k v h => rsp_lo (by omega) h (by omega)]
      · exact (B4 j hj).trans (A4 j (by omega))
      · omega
      · omega
  · rw [if_neg hin]
    obtain ⟨B1, B2, B3, B4⟩ := qOK_tr' (p := p) (x := -1) (y := 0) A1
    have hpp : 0 ≤ p ∧ p < (qTr (qMade r p) p (-1) 0) 1 := by unfold qMade; rw [B4 1 (by omega), A4 1 (by omega)]; exact hp
    refine ⟨qOK_rsp B1 (by omega) hpp (by unfold qVal; omega), fun j hj => ?_⟩
    exact (rsp_lo (by omega) (by omega) (by omega)).trans ((B4 j hj).trans (A4 j (by omega)))
theorem qTurnN_facts {p : Int} : ∀ (n : Nat) (r : gRow) (K : Int), qOK r K → 0 ≤ p ∧ p < r 1 → qOK (qTurnN p n r) (K + 2 * n) ∧ ∀ j : Nat, j < 5 → (qTurnN p n r) j = r j := by
  intro n
  induction n with
  | zero => intro r K hO hp; exact ⟨hO.mono (by omega), fun _ _ => rfl⟩
  | succ n ih =>
    intro r K hO hp
    unfold qTurnN
    by_cases h0 : rp r p 0 = 0
    · rw [if_pos h0]
      obtain ⟨A1, A2⟩ := qStepR_facts hO hp
      by_cases hb : qStepB r p = 0
      · rw [if_pos hb]; exact ⟨A1.mono (by omega), A2⟩
      · rw [if_neg hb]
        obtain ⟨B1, B2⟩ := ih (qStepR r p) (K + 2) A1 (by rw [A2 1 (by omega)]; exact hp)
        exact ⟨B1.mono (by omega), fun j hj => (B2 j hj).trans (A2 j hj)⟩
    · rw [if_neg h0]; exact ⟨hO.mono (by omega), fun _ _ => rfl⟩
theorem m_turn_lp {p : Int} : ∀ (n : Nat) (r : gRow) (K : Int) (fu : Nat), qOK r K → K + 2 * n ≤ 900000000 → 0 ≤ p ∧ p < r 1 → n < fu → fX9_turns_12 g fu a p (n : Int) (mrow M (a + 1) r) = some (mrow M (a + 1) (qTurnE p (qTurnN p n r))) := by
  have T38 : ∀ (r : gRow) (K : Int), qOK r K → K ≤ 900000000 → 0 ≤ p ∧ p < r 1 → fX9_turns_38 g a p (mrow M (a + 1) r) = some (mrow M (a + 1) (qTurnE p r)) := by
    intro r K hO hK hp
    have h1 := hO.2.1
    have h3 := hO.2.2.2.1
    have h6 := (hO.p hp).2.2.2.2.2.2.1
    unfold fX9_turns_38 qTurnE
    have e : (rup (rsp r p 6 (rp r p 6 + 1)) 4 p) (3 : Int).toNat = r 3 := by
      rw [rup_miss (by omega)]; exact rsp_lo (by omega) (by omega) (by omega)
    simp (disch := omega) only [m_of, m_sets, Option.bind_some, gwi_eq, if_pos, gst_eq, mrow_up]
    rw [mrow_at, e, gwi_eq (by omega) (by omega)]
  intro n
  induction n with
  | zero =>
    intro r K fu hO hK hp hf
    obtain ⟨fu, rfl⟩ := fuS hf
    unfold fX9_turns_12 qTurnN
    rw [if_pos (by omega)]
    exact T38 r K hO (by omega) hp
  | succ n ih =>
    intro r K fu hO hK hp hf
    obtain ⟨fu, rfl⟩ := fuS hf
    have h1 := hO.2.1
    obtain ⟨A1, A2⟩ := qStepR_facts hO hp
    unfold fX9_turns_12 qTurnN
    rw [if_neg (by omega), m_isReady (by omega), Option.bind_some]
    by_cases h0 : rp r p 0 = 0
    · rw [if_neg (by rw [qB_t h0]; omega), if_pos h0, m_steps hO (by omega) hp, Option.bind_some]
      show (if qStepB r p = 0 then _ else _) = _
      by_cases hb : qStepB r p = 0
      · rw [if_pos hb, if_pos hb]
        exact T38 _ _ A1 (by omega) (by rw [A2 1 (by omega)]; exact hp)
      · rw [if_neg hb, if_neg hb, gst_eq]
        have e : ((n + 1 : Nat) : Int) + -1 = n := by omega
        have h3 := hO.2.2.2.1
        rw [e, gwi_eq (by omega) (by omega)]
        exact ih _ (K + 2) fu A1 (by omega) (by rw [A2 1 (by omega)]; exact hp) (by omega)
    · rw [if_pos (qB_f h0), if_neg h0]
      exact T38 r K hO (by omega) hp
/-- someone who is ready is there -/
theorem qNext_in (hO : qOK r K) (hL : ¬ qLive r = -1) : (0 ≤ qNext r ∧ qNext r < r 1) ∧ rp r (qNext r) 0 = 0 := by
  have h1 := hO.2.1
  have h4 := hO.2.2.2.2.1
  have q := qNx_in (r := r) h1.1 (r 1).toNat (r 4) (by omega)
  rcases q with q | q
  · exfalso
    refine qNx_found (r := r) h1.1 (r 1).toNat (r 4) (by omega) h4.2 ?_ q
    unfold qLive at hL
    rcases qFind_spec (fun p => decide (rp r p 0 = 0 ∧ qStuck r p = 0)) (r 1).toNat 0 with ⟨h, -⟩ | ⟨q1, q2, q3, -⟩
    · exact absurd h hL
    · have q4 := (of_decide_eq_true q3).1
      generalize qFind (fun p => decide (rp r p 0 = 0 ∧ qStuck r p = 0)) (r 1).toNat 0 = z at q1 q2 q4
      by_cases hz : r 4 < z
      · refine ⟨z - r 4, by omega, by omega, ?_, by omega⟩
        rw [if_pos (by omega), show r 4 + (z - r 4) = z by omega]; exact q4
      · refine ⟨z - r 4 + r 1, by omega, by omega, ?_, by omega⟩
        rw [if_neg (by omega), show r 4 + (z - r 4 + r 1) - r 1 = z by omega]; exact q4
  · exact q
theorem m_turn (hO : qOK r K) (hK : K ≤ 800000000) (hL : ¬ qLive r = -1) : fX9_turns g a (mrow M (a + 1) r) = some (mrow M (a + 1) (qTurn r)) := by
  have h1 := hO.2.1
  obtain ⟨hn, -⟩ := qNext_in hO hL
  have h4 := (hO.p hn).2.2.2.2.1
  unfold fX9_turns qTurn
  rw [m_next hO, Option.bind_some, m_of (by omega) (by omega), Option.bind_some]
  have := m_turn_lp (g := g) (a := a) (M := M) (rp r (qNext r) 4).toNat r K gF hO (by omega) hn (by unfold gF; omega)
  rw [show (((rp r (qNext r) 4).toNat : Nat) : Int) = rp r (qNext r) 4 by omega] at this
  exact this
theorem qTurn_OK (hO : qOK r K) (hL : ¬ qLive r = -1) : qOK (qTurn r) (K + 20) ∧ (qTurn r) 0 = r 0 ∧ (qTurn r) 1 = r 1 ∧ (qTurn r) 2 = r 2 := by
  have h1 := hO.2.1
  obtain ⟨hn, -⟩ := qNext_in hO hL
  have h4 := (hO.p hn).2.2.2.2.1
  unfold qTurn
  obtain ⟨A1, A2⟩ := qTurnN_facts (rp r (qNext r) 4).toNat r K hO hn
  generalize qTurnN (qNext r) (rp r (qNext r) 4).toNat r = r' at A1 A2 ⊢
  generalize qNext r = p at hn A1 h4 ⊢
  have hp : 0 ≤ p ∧ p < r' 1 := by rw [A2 1 (by omega)]; exact hn
  have h6 := (A1.p hp).2.2.2.2.2.2.1
  have B := qOK_rsp (K' := K + 20) (k := 6) (v := rp r' p 6 + 1) A1 (by omega) hp (by unfold qVal; omega)
  have h3 := A1.2.2.2.1
  have e : ∀ j : Nat, j < 6 → (rsp r' p 6 (rp r' p 6 + 1)) j = r' j := fun j hj => rsp_lo (by omega) (by omega) hj
  have E : ∀ j : Nat, ¬ j = 3 → ¬ j = 4 → (qTurnE p r') j = (rsp r' p 6 (rp r' p 6 + 1)) j := fun j q1 q2 => by
    unfold qTurnE
    rw [rup_miss (by omega), rup_miss (by omega)]
  have E3 : (qTurnE p r') 3 = r' 3 + 1 := rup_hit rfl
  have E4 : (qTurnE p r') 4 = p := by unfold qTurnE; rw [rup_miss (by omega)]; exact rup_hit rfl
  refine ⟨B.tr (Int.le_refl _) (E 0 (by omega) (by omega)) (E 1 (by omega) (by omega)) (E 2 (by omega) (by omega)) (by rw [E3]; omega) (by rw [E4, e 1 (by omega)]; omega) (by rw [E 5 (by omega) (by omega)]; exact B.2.2.2.2.2.1) (fun j q1 q2 => E j (by omega) (by omega)), ?_, ?_, ?_⟩
  · rw [E 0 (by omega) (by omega), e 0 (by omega), A2 0 (by omega)]
  · rw [E 1 (by omega) (by omega), e 1 (by omega), A2 1 (by omega)]
  · rw [E 2 (by omega) (by omega), e 2 (by omega), A2 2 (by omega)]
theorem m_goes_lp : ∀ (n : Nat) (x : Int) (r : gRow) (K : Int) (fu : Nat), qOK r K → K + 20 * n ≤ 800000000 → 0 ≤ x → x + n ≤ 1000000 → n < fu → fX9_goesOn_2 g fu a (x + n) x (mrow M (a + 1) r) = some ((qGoesN n x r).1, mrow M (a + 1) (qGoesN n x r).2) := by
  intro n
  induction n with
  | zero =>
    intro x r K fu hO hK hx hxn hf
    obtain ⟨fu, rfl⟩ := fuS hf
    unfold fX9_goesOn_2 qGoesN
    rw [if_pos (by omega)]
  | succ n ih =>
    intro x r K fu hO hK hx hxn hf
    obtain ⟨fu, rfl⟩ := fuS hf
    unfold fX9_goesOn_2 qGoesN
    rw [if_neg (by omega), m_isOver hO, Option.bind_some]
    by_cases hL : qLive r = -1
    · rw [if_neg (by rw [qB_t hL]; omega), if_pos hL]
    · have hT := qTurn_OK hO hL
      rw [if_pos (qB_f hL), if_neg hL, m_turn hO (by omega) hL, Option.bind_some, gst_eq, gwi_eq (by omega) (by omega)]
      rw [show x + ((n + 1 : Nat) : Int) = (x + 1) + n by omega]
      exact ih (x + 1) _ (K + 20) fu hT.1 (by omega) (by omega) (by omega) (by omega)
theorem m_goesOn (hO : qOK r K) (hK : K ≤ 700000000) {n : Int} (hn : n ≤ 15000) : fX9_goesOn g a n (mrow M (a + 1) r) = some ((qGoes r n).1, mrow M (a + 1) (qGoes r n).2) := by
  unfold fX9_goesOn qGoes
  by_cases h0 : 0 ≤ n
  · have := m_goes_lp (g := g) (a := a) (M := M) n.toNat 0 r K gF hO (by omega) (by omega) (by omega) (by unfold gF; omega)
    rw [show (0 : Int) + (n.toNat : Int) = n by omega] at this
    exact this
  · have e : n.toNat = 0 := by omega
    rw [e]
    have : gF = 19999 + 1 := rfl
    rw [this]
    unfold fX9_goesOn_2 qGoesN
    rw [if_pos (by omega)]
end MSteps
