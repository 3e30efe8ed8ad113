/-! PURE: a step and a turn of the reference -/
def qCmd (r : gRow) (p : Int) : Int := rp r p (18 + rp r p 2)
def qOpd (r : gRow) (p : Int) : Int := rp r p (42 + rp r p 2)
def qStepB (r : gRow) (p : Int) : Int := if rp r p 2 < rp r p 3 ∧ qFault r p = 0 ∧ 0 < qBlock r p then 0 else 1
def qMade (r : gRow) (p : Int) : gRow := rsp r p 7 (rp r p 7 + 1)
def qWait (r : gRow) (p : Int) : gRow := rsp r p 8 (rp r p 8 + 1)
def qStepR (r : gRow) (p : Int) : gRow :=
  if rp r p 2 < rp r p 3 then
    (if qFault r p = 0 then (if 0 < qBlock r p then qTr (qWait r p) p (rp r p 2) 1 else qDoes (rsp (qTr (qMade r p) p (rp r p 2) 0) p 2 (rp r p 2 + 1)) p (qCmd r p) (qOpd r p))
     else rsp (rsp (qTr (qMade r p) p (rp r p 2) (10 + qFault r p)) p 0 2) p 1 (qFault r p))
  else rsp (qTr (qMade r p) p (-1) 0) p 0 1
section MTurn
variable {g : Nat → Nat} {a : Nat} {M : gMem} {r : gRow} {K : Int}
theorem qFault_rng {p : Int} : 0 ≤ qFault r p ∧ qFault r p ≤ 6 := by
  unfold qFault qFaultC qTail
  split
  · omega
  split
  · omega
  split
  · omega
  split
  · omega
  split
  · omega
  split
  · split <;> omega
  · omega
theorem qBlock_rng {p : Int} : 0 ≤ qBlock r p ∧ qBlock r p ≤ 2 := by
  unfold qBlock qBlockC
  split
  · split
    · split <;> omega
    · split <;> omega
  · omega
theorem qCan_of (hO : qOK r K) {p : Int} (hp : 0 ≤ p ∧ p < r 1) (hin : rp r p 2 < rp r p 3) (hf : qFault r p = 0) : qCan r p (qCmd r p) (qOpd r p) := by
  have h2 := hO.2.2.1
  have hOp := hO.p hp
  have hpl := hOp.2.2.1
  have hcv := hOp.2.2.2.2.2.2.2.2.2.2 (rp r p 2) hpl.1 hin
  unfold qFault at hf
  unfold qCmd qOpd
  generalize rp r p (18 + rp r p 2) = c at hf hcv ⊢
  generalize rp r p (42 + rp r p 2) = v at hf hcv ⊢
  obtain ⟨hc, hv, hs, hj⟩ := hcv
  refine ⟨hc, fun h7 => ?_, fun h8 => hs h8.1 h8.2, fun h11 => hj (by omega) (by omega), hv⟩
  unfold qFaultC qTail at hf
  have hh := qHand_in h2.1 (r := r) p
  generalize qInHand r p = h at hf hh ⊢
  have hn1 : ¬ h = -1 := by
    intro e
    rw [if_pos (by omega)] at hf
    omega
  have hh' : (0 ≤ h ∧ h < r 2) := by rcases hh with q | q; exact absurd q hn1; exact q.1
  rw [if_neg (by omega), if_neg (by omega), if_neg (by omega)] at hf
  have q := hO.2.2.2.2.2.2.2 h hh'.1 hh'.2
  have q1 := q.2.1
  have hnn : 0 ≤ qNeed c := by unfold qNeed; split; omega; split <;> omega
  refine ⟨hh', ?_, fun h0 => ?_, fun h4 => ?_⟩
  · by_cases e : 0 < qNeed c ∧ rs r h 1 < qNeed c
    · rw [if_pos e] at hf; omega
    · omega
  · by_cases e : 0 < qNeed c ∧ rs r h 1 < qNeed c
    · rw [if_pos e] at hf; omega
    · rw [if_neg e] at hf
      by_cases e2 : rs r h 1 = rs r h 0
      · rw [if_pos ⟨h0, e2⟩] at hf; omega
      · omega
  · by_cases e : 0 < qNeed c ∧ rs r h 1 < qNeed c
    · rw [if_pos e] at hf; omega
    · rw [if_neg e, if_neg (by omega), if_pos h4] at hf
      by_cases e2 : qRes r h c < -999999 ∨ 999999 < qRes r h c
      · rw [if_pos e2] at hf; omega
      · omega
/-- rows that agree below the trace -/
def qSame (r r' : gRow) : Prop := ∀ j : Nat, j < 946 → ¬ j = 5 → r' j = r j
theorem qSame.hand {r r' : gRow} (h : qSame r r') (h2 : r 2 ≤ 12) (p : Int) : qInHand r' p = qInHand r p := qInHand_congr (h 2 (by omega) (by omega)) (fun s q1 q2 => h _ (by omega) (by omega))
theorem qSame.slot {r r' : gRow} (h : qSame r r') (h2 : r 2 ≤ 12) (p : Int) : qOnSlot r' p = qOnSlot r p := qOnSlot_congr (h 2 (by omega) (by omega)) (fun s q1 q2 => h _ (by omega) (by omega))
theorem qTr_same {p x y : Int} (h5 : 0 ≤ r 5 ∧ r 5 ≤ 40) : qSame r (qTr r p x y) := fun j q1 q2 => qTr_off h5 j q2 (by omega)
/-- whether a command can be done doesn't hang on the counters of its process nor on the trace -/
theorem qCan.congr {r r' : gRow} {p c v : Int} (h : qCan r p c v) (h2 : 0 ≤ r 2 ∧ r 2 ≤ 12) (e0 : r' 0 = r 0) (e2 : r' 2 = r 2) (hs : ∀ s k : Int, 0 ≤ s → s < r 2 → 0 ≤ k → k < 21 → rs r' s k = rs r s k) (hn : ∀ s : Int, 0 ≤ s → s < r 2 → 0 ≤ rs r s 1 ∧ rs r s 1 ≤ 16) : qCan r' p c v := by
  have hh : qInHand r' p = qInHand r p := qInHand_congr e2 (fun s q1 q2 => hs s 2 q1 q2 (by omega) (by omega))
  obtain ⟨a1, a2, a3, a4, a5⟩ := h
  refine ⟨a1, fun h7 => ?_, by rw [e0]; exact a3, a4, a5⟩
  obtain ⟨b1, b2, b3, b4⟩ := a2 h7
  rw [hh, e2, hs _ 1 b1.1 b1.2 (by omega) (by omega), hs _ 0 b1.1 b1.2 (by omega) (by omega)]
  refine ⟨b1, b2, b3, fun h4 => ?_⟩
  have hq : qNeed c = 2 := by unfold qNeed; rw [if_neg (by omega), if_pos (by omega)]
  have h16 := hn _ b1.1 b1.2
  have n0 : qNum r' (qInHand r p) 0 = qNum r (qInHand r p) 0 := by unfold qNum; rw [hs _ 1 b1.1 b1.2 (by omega) (by omega), hs _ _ b1.1 b1.2 (by omega) (by omega)]
  have n1 : qNum r' (qInHand r p) 1 = qNum r (qInHand r p) 1 := by unfold qNum; rw [hs _ 1 b1.1 b1.2 (by omega) (by omega), hs _ _ b1.1 b1.2 (by omega) (by omega)]
  unfold qRes
  rw [n0, n1]
  exact b4 h4
theorem qOK.len (hO : qOK r K) {s : Int} (q1 : 0 ≤ s) (q2 : s < r 2) : 0 ≤ rs r s 1 ∧ rs r s 1 ≤ 16 := by
  have q := hO.2.2.2.2.2.2.2 s q1 q2
  have := q.1
  have := q.2.1
  omega
theorem qPop_rs {s : Int} (hs : 0 ≤ s) (t k : Int) (ht : 0 ≤ t) (hk : 0 ≤ k ∧ k < 21) : rs (qPop r s) t k = if t = s ∧ k = 1 then rs r s 1 - 1 else rs r t k := by
  unfold qPop
  by_cases e : t = s ∧ k = 1
  · rw [if_pos e, e.1, e.2, rs_rss_eq]
  · rw [if_neg e]
    simp (disch := omega) only [rs_rss_ne]
theorem qPush_rs {s v : Int} (hs : 0 ≤ s) (h1 : 0 ≤ rs r s 1 ∧ rs r s 1 ≤ 15) (t k : Int) (ht : 0 ≤ t) (hk : 0 ≤ k ∧ k < 21) : rs (qPush r s v) t k = if t = s ∧ k = 1 then rs r s 1 + 1 else if t = s ∧ k = 5 + rs r s 1 then v else rs r t k := by
  unfold qPush
  by_cases e : t = s ∧ k = 1
  · rw [if_pos e, e.1, e.2, rs_rss_eq]
  · rw [if_neg e]
    by_cases e2 : t = s ∧ k = 5 + rs r s 1
    · rw [if_pos e2, e2.1, e2.2]
      simp (disch := omega) only [rs_rss_ne, rs_rss_eq]
    · rw [if_neg e2]
      simp (disch := omega) only [rs_rss_ne]
theorem qPop_lo {s : Int} (hs : 0 ≤ s) (j : Nat) (hj : j < 694) : (qPop r s) j = r j := rss_lo hs (by omega) hj
theorem qPop_hi {s : Int} (hs : 0 ≤ s ∧ s < 12) (j : Nat) (hj : 946 ≤ j) : (qPop r s) j = r j := rss_hi hs (by omega) hj
theorem qPush_lo {s v : Int} (hs : 0 ≤ s) (h1 : 0 ≤ rs r s 1 ∧ rs r s 1 ≤ 15) (j : Nat) (hj : j < 694) : (qPush r s v) j = r j := by
  unfold qPush
  simp (disch := omega) only [rss_lo]
theorem qPush_hi {s v : Int} (hs : 0 ≤ s ∧ s < 12) (h1 : 0 ≤ rs r s 1 ∧ rs r s 1 ≤ 15) (j : Nat) (hj : 946 ≤ j) : (qPush r s v) j = r j := by
  unfold qPush
  simp (disch := omega) only [rss_hi]
/-- pushing, with what the next one wants -/
theorem qOK_push' {s v : Int} (hO : qOK r K) (hs : 0 ≤ s ∧ s < r 2) (h1 : rs r s 1 < rs r s 0) (hv : -999999 ≤ v ∧ v ≤ 999999) : qOK (qPush r s v) K ∧ (qPush r s v) 2 = r 2 ∧ rs (qPush r s v) s 0 = rs r s 0 ∧ rs (qPush r s v) s 1 = rs r s 1 + 1 := by
  have q := hO.2.2.2.2.2.2.2 s hs.1 hs.2
  have hb : 0 ≤ rs r s 1 ∧ rs r s 1 ≤ 15 := by have := q.1; have := q.2.1; omega
  refine ⟨qOK_push hO hs h1 hv, qPush_lo hs.1 hb 2 (by omega), ?_, ?_⟩
  · rw [qPush_rs hs.1 hb s 0 hs.1 (by omega), if_neg (by omega), if_neg (by omega)]
  · rw [qPush_rs hs.1 hb s 1 hs.1 (by omega), if_pos (by omega)]
theorem qOK_pop' {s : Int} (hO : qOK r K) (hs : 0 ≤ s ∧ s < r 2) (h1 : 1 ≤ rs r s 1) : qOK (qPop r s) K ∧ (qPop r s) 2 = r 2 ∧ rs (qPop r s) s 0 = rs r s 0 ∧ rs (qPop r s) s 1 = rs r s 1 - 1 := by
  refine ⟨qOK_pop hO hs h1, qPop_lo hs.1 2 (by omega), ?_, ?_⟩
  · rw [qPop_rs hs.1 s 0 hs.1 (by omega), if_neg (by omega)]
  · rw [qPop_rs hs.1 s 1 hs.1 (by omega), if_pos (by omega)]
theorem qDoes_OK {p c v : Int} (hO : qOK r K) (hp : 0 ≤ p ∧ p < r 1) (hC : qCan r p c v) (h13 : c = 13 → 1 ≤ rp r p 2) : qOK (qDoes r p c v) (K + 1) := by
  have h1 := hO.2.1
  have h2 := hO.2.2.1
  have hOp := hO.p hp
  obtain ⟨hc, hA, hB, hJ, hv⟩ := hC
  unfold qDoes
  by_cases c7 : c ≤ 7 ∨ c = 12
  · obtain ⟨hh, hn, hf, hr⟩ := hA c7
    have hst := hO.st hh
    have hb := (hO.2.2.2.2.2.2.2 _ hh.1 hh.2).2.1
    have nr : ∀ d : Int, 0 ≤ d ∧ d < rs r (qInHand r p) 1 → -999999 ≤ qNum r (qInHand r p) d ∧ qNum r (qInHand r p) d ≤ 999999 := fun d hd => qNum_rng hst hd
    by_cases c0 : c = 0
    · rw [if_pos c0]
      exact (qOK_push hO hh (hf (Or.inl c0)) hv).mono (by omega)
    rw [if_neg c0]
    have hn1 : 1 ≤ rs r (qInHand r p) 1 := by
      have : 1 ≤ qNeed c := by
        unfold qNeed
        split
        · omega
        · rw [if_pos (by omega)]; omega
      omega
    by_cases c1 : c = 1
    · rw [if_pos c1]
      exact (qOK_pop hO hh hn1).mono (by omega)
    rw [if_neg c1]
    by_cases c2 : c = 2
    · rw [if_pos c2]
      exact (qOK_push hO hh (hf (Or.inr c2)) (nr 0 (by omega))).mono (by omega)
    rw [if_neg c2]
    by_cases c3 : c = 3
    · have hn' : 2 ≤ rs r (qInHand r p) 1 := by
        have : qNeed c = 2 := by rw [c3]; decide
        omega
      have n0 := nr 0 (by omega)
      have n1 := nr 1 (by omega)
      rw [if_pos c3]
      generalize qInHand r p = h at *
      obtain ⟨A1, A2, A3, A4⟩ := qOK_pop' hO hh hn1
      obtain ⟨B1, B2, B3, B4⟩ := qOK_pop' (s := h) A1 (by omega) (by omega)
      obtain ⟨C1, C2, C3, C4⟩ := qOK_push' (s := h) B1 (by omega) (by omega) n0
      exact (qOK_push C1 (by omega) (by omega) n1).mono (by omega)
    rw [if_neg c3]
    by_cases c4 : 4 ≤ c ∧ c ≤ 6
    · have hn' : 2 ≤ rs r (qInHand r p) 1 := by
        have : qNeed c = 2 := by unfold qNeed; rw [if_neg (by omega), if_pos (by omega)]
        omega
      have n0 := hr c4
      rw [if_pos c4]
      generalize qInHand r p = h at *
      obtain ⟨A1, A2, A3, A4⟩ := qOK_pop' hO hh hn1
      obtain ⟨B1, B2, B3, B4⟩ := qOK_pop' (s := h) A1 (by omega) (by omega)
      exact (qOK_push B1 (by omega) (by omega) n0).mono (by omega)
    rw [if_neg c4]
    by_cases c7' : c = 7
    · rw [if_pos c7']
      have e : ∀ x : Int, rs (qSay r p x) (qInHand r p) 1 = rs r (qInHand r p) 1 := fun x => qSay_off (by omega) _ (by omega)
      refine qOK_pop (qOK_say hO hp) ?_ (by rw [e]; exact hn1)
      rw [show ∀ x : Int, (qSay r p x) 2 = r 2 from fun x => qSay_off (by omega) 2 (by omega)]
      exact hh
    rw [if_neg c7', if_neg (by omega), if_neg (by omega), if_pos (by omega)]
    by_cases hz : qNum r (qInHand r p) 0 = 0
    · rw [if_pos hz]
      have hj := hJ (by omega)
      have e : rs (rsp r p 2 v) (qInHand r p) 1 = rs r (qInHand r p) 1 := rs_rsp (by omega) hh.1 (by omega) (by omega)
      have e2 : (rsp r p 2 v) 2 = r 2 := rsp_lo (by omega) (by omega) (by omega)
      exact qOK_pop (qOK_rsp hO (by omega) hp (by unfold qVal; omega)) (by rw [e2]; exact hh) (by rw [e]; exact hn1)
    · rw [if_neg hz]
      exact (qOK_pop hO hh hn1).mono (by omega)
  · rw [if_neg (by omega), if_neg (by omega), if_neg (by omega), if_neg (by omega), if_neg (by omega), if_neg (by omega)]
    by_cases c8 : 8 ≤ c ∧ c ≤ 10
    · rw [if_pos c8]
      exact qOK_ex hO hp (hB c8)
    rw [if_neg c8]
    by_cases c11 : c = 11
    · have hj := hJ (by omega)
      rw [if_pos c11]
      exact qOK_rsp hO (by omega) hp (by unfold qVal; omega)
    have hpl := hOp.2.2.1
    have h13' := h13 (by omega)
    have e1 : (rsp r p 0 1) 1 = r 1 := rsp_lo (by omega) (by omega) (by omega)
    rw [if_neg c11, if_neg (by omega)]
    exact qOK_rsp (qOK_rsp hO (Int.le_refl K) hp (by unfold qVal; omega)) (by omega) (by rw [e1]; exact hp) (by unfold qVal; omega)
theorem qDoes_lo {p c v : Int} (hO : qOK r K) (hp : 0 ≤ p ∧ p < r 1) (hC : qCan r p c v) (j : Nat) (hj : j < 6) : (qDoes r p c v) j = r j := by
  have h1 := hO.2.1
  have h2 := hO.2.2.1
  obtain ⟨hc, hA, hB, hJ, hv⟩ := hC
  have hh0 := qHand_in h2.1 (r := r) p
  unfold qDoes
  by_cases c7 : c ≤ 7 ∨ c = 12
  · obtain ⟨hh, hn, hf, hr⟩ := hA c7
    have hs := hO.len hh.1 hh.2
    have hb16 := (hO.2.2.2.2.2.2.2 _ hh.1 hh.2).1.2
    have P := fun (r : gRow) => qPop_lo (r := r) hh.1 j (by omega)
    have e1 : rs (qPop r (qInHand r p)) (qInHand r p) 1 = rs r (qInHand r p) 1 - 1 := rs_rss_eq
    have e2 : rs (qPop (qPop r (qInHand r p)) (qInHand r p)) (qInHand r p) 1 = rs (qPop r (qInHand r p)) (qInHand r p) 1 - 1 := rs_rss_eq
    have e3 : ∀ x : Int, rs (qPush (qPop (qPop r (qInHand r p)) (qInHand r p)) (qInHand r p) x) (qInHand r p) 1 = rs (qPop (qPop r (qInHand r p)) (qInHand r p)) (qInHand r p) 1 + 1 := fun x => rs_rss_eq
    have hnn : c = 3 ∨ 4 ≤ c ∧ c ≤ 6 → qNeed c = 2 := by intro h; unfold qNeed; rw [if_neg (by omega), if_pos (by omega)]
    split
    · exact qPush_lo hh.1 (by have := hf (by omega); omega) j (by omega)
    split
    · exact P r
    split
    · exact qPush_lo hh.1 (by have := hf (by omega); omega) j (by omega)
    split
    · have := hnn (by omega)
      rw [qPush_lo hh.1 (by rw [e3]; omega) j (by omega), qPush_lo hh.1 (by omega) j (by omega), P, P]
    split
    · have := hnn (by omega)
      rw [qPush_lo hh.1 (by omega) j (by omega), P, P]
    split
    · rw [P]; exact qSay_off (by omega) j (by omega)
    split
    · omega
    split
    · omega
    split
    · rw [P]
      split
      · exact rsp_lo (by omega) (by omega) hj
      · rfl
    · omega
  · rw [if_neg (by omega), if_neg (by omega), if_neg (by omega), if_neg (by omega), if_neg (by omega), if_neg (by omega)]
    split
    · exact qEx_lo h2.1 (by omega) j (by omega)
    split
    · exact rsp_lo (by omega) (by omega) hj
    split
    · omega
    · exact (rsp_lo (by omega) (by omega) hj).trans (rsp_lo (by omega) (by omega) hj)
end MTurn
