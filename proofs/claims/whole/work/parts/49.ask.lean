/-! PURE: questions: what class and reference answer off a row -/
/-- what a refusal is in numbers: c is the one that is named first -/
def qThr (c : Nat) : Nat ⊕ Int → Int
  | .inl e => if e = c then 1 else 2
  | .inr _ => 0
def qWert : Nat ⊕ Int → Int
  | .inl _ => 0
  | .inr v => v
def sCount (r : gRow) (x : Int) : Nat ⊕ Int :=
  if x = 0 then .inr (r 0) else if x = 1 then .inr (r 1) else if x = 2 then .inr (r 2) else if x = 3 then .inr (r 3) else if x = 4 then .inr (qCountOf r 0) else if x = 5 then .inr (qCountOf r 1) else if x = 6 then .inr (qCountOf r 2) else if x = 7 then .inr (qSumOf r 7) else if x = 8 then .inr (r 5) else if x = 9 then .inr (qNext r) else if x = 10 then .inr (if qLive r = -1 then (if qCountOf r 0 ≤ 0 then 0 else 1) else 0) else .inl 2
def sProcess (r : gRow) (p x : Int) : Nat ⊕ Int :=
  if 0 ≤ p ∧ p < r 1 then (if 0 ≤ x ∧ x ≤ 10 then .inr (if x = 3 then qInHand r p else if 3 < x then rp r p (x - 1) else rp r p x) else .inl 2) else .inl 3
def sStack (r : gRow) (s x : Int) : Nat ⊕ Int :=
  if 0 ≤ s ∧ s < r 2 then (if 0 ≤ x ∧ x ≤ 4 then .inr (rs r s x) else .inl 2) else .inl 3
def sNumber (r : gRow) (s x : Int) : Nat ⊕ Int :=
  if 0 ≤ s ∧ s < r 2 then .inr (if 0 ≤ x ∧ x < rs r s 1 then qNum r s x else -1000000) else .inl 3
def sSlot (r : gRow) (k : Int) : Nat ⊕ Int := if 0 ≤ k ∧ k < r 0 then .inr (qOnSlot r k) else .inl 3
def sCommand (r : gRow) (p k x : Int) : Nat ⊕ Int :=
  if 0 ≤ p ∧ p < r 1 then (if 0 ≤ k ∧ k < rp r p 3 then (if 0 ≤ x ∧ x ≤ 1 then .inr (if x = 0 then rp r p (18 + k) else rp r p (42 + k)) else .inl 2) else .inl 3) else .inl 3
def qSaid (r : gRow) (p k : Int) : Int := if (0 ≤ k ∧ k ≤ 19) ∧ k < rp r p 9 then rp r p (66 + k) else -1000000
def sSaid (r : gRow) (p k : Int) : Nat ⊕ Int := if 0 ≤ p ∧ p < r 1 then .inr (qSaid r p k) else .inl 3
def sTrace (r : gRow) (k x : Int) : Nat ⊕ Int :=
  if 0 ≤ k ∧ k < r 5 then (if 0 ≤ x ∧ x ≤ 3 then .inr (r (1030 + 4 * (r 5 - 1 - k) + x).toNat) else .inl 2) else .inl 3
def sWhy (r : gRow) (p : Int) : Nat ⊕ Int := if 0 ≤ p ∧ p < r 1 then .inr (qStuck r p) else .inl 3
section Ask
variable {M M' : gMem} {d a : Nat} {r r' : gRow} {K K' : Int} {g : Nat → Nat}
theorem mrow_a7 {v : Int} : gup (mrow M (a + 1) r) a 7 v = mrow (gup M a 7 v) (a + 1) r := mrow_up_ne (by omega)
theorem mrow_7 {v : Int} : mrow (gup M a 7 v) (a + 1) r a 7 = v := by rw [mrow_ne (by omega), gup_hit rfl rfl]
theorem c_count_lp (h1 : 1 ≤ r 1 ∧ r 1 ≤ 8) (hd : DRd M d r) (hP : DRP M d r) {st : Int} : ∀ (n : Nat) (c p : Int) (fu : Nat), 0 ≤ p → p + n = r 1 → 0 ≤ c → c ≤ p → n < fu → fX0_countInState_4 g fu d st c p M = some (c + qCnt (fun p => decide (rp r p 0 = st)) n p) := by
  intro n
  induction n with
  | zero =>
    intro c p fu h0 hs hc hcp hf
    obtain ⟨fu, rfl⟩ := fuS hf
    unfold fX0_countInState_4 qCnt
    rw [hd.2.1, if_pos (by omega), Int.add_zero]
  | succ n ih =>
    intro c p fu h0 hs hc hcp hf
    obtain ⟨fu, rfl⟩ := fuS hf
    unfold fX0_countInState_4 qCnt fX0_countInState_37
    rw [hd.2.1, if_neg (by omega), if_neg (by omega), if_pos (by omega), (hP p h0 (by omega)).f.1]
    by_cases e : rp r p 0 = st
    · rw [if_pos e, if_pos (by simpa using e), gst_eq, gst_eq, gwi_eq (by omega) (by omega), gwi_eq (by omega) (by omega), ih (c + 1) (p + 1) fu (by omega) (by omega) (by omega) (by omega) (by omega)]
      congr 1; omega
    · rw [if_neg e, if_neg (by simpa using e), gst_eq, gwi_eq (by omega) (by omega), ih c (p + 1) fu (by omega) (by omega) (by omega) (by omega) (by omega)]
      congr 1; omega
theorem c_countOf (h1 : 1 ≤ r 1 ∧ r 1 ≤ 8) (hd : DRd M d r) (hP : DRP M d r) {st : Int} : fX0_countInState g d st M = some (qCountOf r st) := by
  unfold fX0_countInState qCountOf
  rw [c_count_lp h1 hd hP (r 1).toNat 0 0 gF (by omega) (by omega) (by omega) (by omega) (by unfold gF; omega)]
  congr 1; omega
theorem c_steps_lp (hO : qOK r K) (hK : K ≤ 100000000) (hd : DRd M d r) (hP : DRP M d r) : ∀ (n : Nat) (c p : Int) (fu : Nat), 0 ≤ p → p + n = r 1 → 0 ≤ c → c ≤ p * 100000000 → n < fu → fX0_allSteps_4 g fu d c p M = some (c + qSum (fun p => rp r p 7) n p) := by
  have h1 := hO.2.1
  intro n
  induction n with
  | zero =>
    intro c p fu h0 hs hc hcp hf
    obtain ⟨fu, rfl⟩ := fuS hf
    unfold fX0_allSteps_4 qSum
    rw [hd.2.1, if_pos (by omega), Int.add_zero]
  | succ n ih =>
    intro c p fu h0 hs hc hcp hf
    obtain ⟨fu, rfl⟩ := fuS hf
    have b := (hO.p (p := p) ⟨h0, by omega⟩).2.2.2.2.2.2.2.1
    unfold fX0_allSteps_4 qSum
    rw [hd.2.1, if_neg (by omega), if_neg (by omega), if_pos (by omega), (hP p h0 (by omega)).f.2.2.2.2.2.2.2.1, gst_eq, gst_eq, gwi_eq (by omega) (by omega), gwi_eq (by omega) (by omega), ih _ _ fu (by omega) (by omega) (by omega) (by omega) (by omega)]
    congr 1; omega
theorem c_allSteps (hO : qOK r K) (hK : K ≤ 100000000) (hd : DRd M d r) (hP : DRP M d r) : fX0_allSteps g d M = some (qSumOf r 7) := by
  have h1 := hO.2.1
  unfold fX0_allSteps qSumOf
  rw [c_steps_lp hO hK hd hP (r 1).toNat 0 0 gF (by omega) (by omega) (by omega) (by omega) (by unfold gF; omega)]
  congr 1; omega
theorem c_waits_lp (hO : qOK r K) (hK : K ≤ 100000000) (hd : DRd M d r) (hP : DRP M d r) : ∀ (n : Nat) (c p : Int) (fu : Nat), 0 ≤ p → p + n = r 1 → 0 ≤ c → c ≤ p * 100000000 → n < fu → fX0_allWaits_4 g fu d c p M = some (c + qSum (fun p => rp r p 8) n p) := by
  have h1 := hO.2.1
  intro n
  induction n with
  | zero =>
    intro c p fu h0 hs hc hcp hf
    obtain ⟨fu, rfl⟩ := fuS hf
    unfold fX0_allWaits_4 qSum
    rw [hd.2.1, if_pos (by omega), Int.add_zero]
  | succ n ih =>
    intro c p fu h0 hs hc hcp hf
    obtain ⟨fu, rfl⟩ := fuS hf
    have b := (hO.p (p := p) ⟨h0, by omega⟩).2.2.2.2.2.2.2.2.1
    unfold fX0_allWaits_4 qSum
    rw [hd.2.1, if_neg (by omega), if_neg (by omega), if_pos (by omega), (hP p h0 (by omega)).f.2.2.2.2.2.2.2.2.1, gst_eq, gst_eq, gwi_eq (by omega) (by omega), gwi_eq (by omega) (by omega), ih _ _ fu (by omega) (by omega) (by omega) (by omega) (by omega)]
    congr 1; omega
theorem c_allWaits (hO : qOK r K) (hK : K ≤ 100000000) (hd : DRd M d r) (hP : DRP M d r) : fX0_allWaits g d M = some (qSumOf r 8) := by
  have h1 := hO.2.1
  unfold fX0_allWaits qSumOf
  rw [c_waits_lp hO hK hd hP (r 1).toNat 0 0 gF (by omega) (by omega) (by omega) (by omega) (by unfold gF; omega)]
  congr 1; omega
theorem a_count (hO : qOK r K) (hK : K ≤ 100000000) (hD : DR M (a + 1) r K) {x : Int} : fX8_count g a x M = some (sCount r x) := by
  have h1 := hO.2.1
  unfold fX8_count sCount
  rw [hD.1.1, hD.1.2.1, hD.1.2.2.1, hD.1.2.2.2.1, c_countOf h1 hD.1 hD.2.1, c_countOf h1 hD.1 hD.2.1, c_countOf h1 hD.1 hD.2.1, c_allSteps hO hK hD.1 hD.2.1, c_next hO hD, c_isOver hO hD]
  unfold fX2_size
  rw [← hD.2.2.2.2.2.2.1]
  by_cases hx : 0 ≤ x ∧ x ≤ 10
  · have hx' : x = 0 ∨ x = 1 ∨ x = 2 ∨ x = 3 ∨ x = 4 ∨ x = 5 ∨ x = 6 ∨ x = 7 ∨ x = 8 ∨ x = 9 ∨ x = 10 := by omega
    rcases hx' with q | q | q | q | q | q | q | q | q | q | q
    · simp (disch := omega) only [if_pos, if_neg, Option.bind_some]
    · simp (disch := omega) only [if_pos, if_neg, Option.bind_some]
    · simp (disch := omega) only [if_pos, if_neg, Option.bind_some]
    · simp (disch := omega) only [if_pos, if_neg, Option.bind_some]
    · simp (disch := omega) only [if_pos, if_neg, Option.bind_some]
    · simp (disch := omega) only [if_pos, if_neg, Option.bind_some]
    · simp (disch := omega) only [if_pos, if_neg, Option.bind_some]
    · simp (disch := omega) only [if_pos, if_neg, Option.bind_some]
    · simp (disch := omega) only [if_pos, if_neg, Option.bind_some]
    · simp (disch := omega) only [if_pos, if_neg, Option.bind_some]
    · subst q
      by_cases h : qCountOf r 0 ≤ 0 <;> by_cases hL : qLive r = -1 <;> simp [h, hL, qB]
  · simp (disch := omega) only [if_neg]
theorem b_count (hO : qOK r K) (hK : K ≤ 100000000) {x : Int} : fX9_count g a x (mrow M (a + 1) r) = some (qWert (sCount r x), mrow (gup M a 7 (qThr 2 (sCount r x))) (a + 1) r) := by
  have h1 := hO.2.1
  have hK0 : 0 ≤ K := by have := hO.2.2.2.1; omega
  unfold fX9_count
  rw [m_isIn, Option.bind_some]
  by_cases hx : 0 ≤ x ∧ x ≤ 10
  · rw [if_neg (by rw [qB_t hx]; omega)]
    unfold fX9_count_16 fX9_count_84
    rw [gst_eq, mrow_a7, mrow_7, if_pos (Int.le_refl 0), m_countOf h1, m_countOf h1, m_countOf h1, m_sumOf (by omega) h1 ⟨hK0, hK⟩ (fun p q1 q2 => (hO.p ⟨q1, q2⟩).2.2.2.2.2.2.2.1), m_next hO, m_isDeskStuck hO]
    unfold sCount
    have hx' : x = 0 ∨ x = 1 ∨ x = 2 ∨ x = 3 ∨ x = 4 ∨ x = 5 ∨ x = 6 ∨ x = 7 ∨ x = 8 ∨ x = 9 ∨ x = 10 := by omega
    rcases hx' with q | q | q | q | q | q | q | q | q | q | q
    · subst q; simp [qWert, qThr, mrow_at]
    · subst q; simp [qWert, qThr, mrow_at]
    · subst q; simp [qWert, qThr, mrow_at]
    · subst q; simp [qWert, qThr, mrow_at]
    · subst q; simp [qWert, qThr, mrow_at]
    · subst q; simp [qWert, qThr, mrow_at]
    · subst q; simp [qWert, qThr, mrow_at]
    · subst q; simp [qWert, qThr, mrow_at]
    · subst q; simp [qWert, qThr, mrow_at]
    · subst q; simp [qWert, qThr, mrow_at]
    · subst q
      simp [qWert, qThr, mrow_at]
      by_cases h : qCountOf r 0 ≤ 0 <;> by_cases hL : qLive r = -1 <;> simp [h, hL]
  · have es : sCount r x = .inl 2 := by
      unfold sCount
      simp (disch := omega) only [if_neg]
    rw [if_pos (qB_f hx), es]
    unfold fX9_count_16
    rw [gst_eq, mrow_a7, mrow_7, if_neg (by omega)]
    rfl
theorem c_exP (hO : qOK r K) (hD : DR M (a + 1) r K) {p : Int} : fX8_existingProc g a p M = some (if 0 ≤ p ∧ p < r 1 then .inr (a + 1 + 1 + (8 + 4 * p.toNat)) else .inl 3) := by
  unfold fX8_existingProc
  rw [c_procAt hD.1 hO.2.1, Option.bind_some]
  by_cases h : 0 ≤ p ∧ p < r 1
  · rw [if_pos h, if_pos h, if_neg (by omega)]
  · rw [if_neg h, if_neg h, if_pos rfl]
theorem c_exS (hO : qOK r K) (hD : DR M (a + 1) r K) {p : Int} : fX8_existingPile g a p M = some (if 0 ≤ p ∧ p < r 2 then .inr (a + 1 + 2 + (39 + 2 * p.toNat)) else .inl 3) := by
  unfold fX8_existingPile
  rw [c_pileAt hD.1 hO.2.2.1, Option.bind_some]
  by_cases h : 0 ≤ p ∧ p < r 2
  · rw [if_pos h, if_pos h, if_neg (by omega)]
  · rw [if_neg h, if_neg h, if_pos rfl]
theorem a_process (hO : qOK r K) (hD : DR M (a + 1) r K) {p x : Int} : fX8_process g a p x M = some (sProcess r p x) := by
  unfold fX8_process sProcess
  rw [c_exP hO hD]
  by_cases h : 0 ≤ p ∧ p < r 1
  · obtain ⟨f0, f1, f2, f3, f4, f5, f6, f7, f8, f9⟩ := (hD.2.1 p h.1 h.2).f
    have f10 := (hD.2.1 p h.1 h.2).2.1
    rw [if_pos h, if_pos h]
    show (if x = 0 then _ else _) = _
    by_cases hx : 0 ≤ x ∧ x ≤ 10
    · have hx' : x = 0 ∨ x = 1 ∨ x = 2 ∨ x = 3 ∨ x = 4 ∨ x = 5 ∨ x = 6 ∨ x = 7 ∨ x = 8 ∨ x = 9 ∨ x = 10 := by omega
      rcases hx' with q | q | q | q | q | q | q | q | q | q | q <;> subst q <;> simp [*]
    · rw [if_neg hx]
      simp (disch := omega) only [if_neg]
  · rw [if_neg h, if_neg h]
    rfl
theorem b_process (hO : qOK r K) {p x : Int} : fX9_process g a p x (mrow M (a + 1) r) = some (qWert (sProcess r p x), mrow (gup M a 7 (qThr 3 (sProcess r p x))) (a + 1) r) := by
  have h1 := hO.2.1
  unfold fX9_process sProcess
  rw [m_isP h1, Option.bind_some]
  unfold fX9_process_28
  by_cases h : 0 ≤ p ∧ p < r 1
  · rw [if_neg (by rw [qB_t h]; omega), m_isIn, Option.bind_some, if_pos h]
    by_cases hx : 0 ≤ x ∧ x ≤ 10
    · rw [if_neg (by rw [qB_t hx]; omega), if_pos hx, gst_eq, mrow_a7, mrow_7, if_pos (Int.le_refl 0)]
      by_cases h3 : x = 3
      · rw [if_pos (by omega), if_pos h3, m_inHand hO.2.2.1, if_pos h3]
        rfl
      · simp only [if_neg h3]
        by_cases h4 : 3 < x
        · rw [if_pos (by omega), gwi_eq (by omega) (by omega), m_of (by omega) (by omega), if_pos h4]
          rfl
        · rw [if_neg (by omega), m_of (by omega) (by omega), if_neg h4]
          rfl
    · rw [if_pos (qB_f hx), if_neg hx, gst_eq, mrow_a7, mrow_7, if_neg (by omega)]
      rfl
  · rw [if_pos (qB_f h), if_neg h, gst_eq, mrow_a7, mrow_7, if_neg (by omega)]
    rfl
theorem a_stack (hO : qOK r K) (hD : DR M (a + 1) r K) {p x : Int} : fX8_stack g a p x M = some (sStack r p x) := by
  unfold fX8_stack sStack
  rw [c_exS hO hD]
  by_cases h : 0 ≤ p ∧ p < r 2
  · obtain ⟨f0, f1, f2, f3, f4, f5⟩ := hD.2.2.1 p h.1 h.2
    rw [if_pos h, if_pos h]
    show (if x = 0 then _ else _) = _
    by_cases hx : 0 ≤ x ∧ x ≤ 4
    · have hx' : x = 0 ∨ x = 1 ∨ x = 2 ∨ x = 3 ∨ x = 4 := by omega
      rcases hx' with q | q | q | q | q <;> subst q <;> simp [f0, f1, f2, f3, f4]
    · rw [if_neg hx]
      simp (disch := omega) only [if_neg]
  · rw [if_neg h, if_neg h]
    rfl
theorem b_stack (hO : qOK r K) {p x : Int} : fX9_stack g a p x (mrow M (a + 1) r) = some (qWert (sStack r p x), mrow (gup M a 7 (qThr 3 (sStack r p x))) (a + 1) r) := by
  have h2 := hO.2.2.1
  unfold fX9_stack sStack
  rw [m_isS h2, Option.bind_some]
  unfold fX9_stack_27
  by_cases h : 0 ≤ p ∧ p < r 2
  · rw [if_neg (by rw [qB_t h]; omega), m_isIn, Option.bind_some, if_pos h]
    by_cases hx : 0 ≤ x ∧ x ≤ 4
    · rw [if_neg (by rw [qB_t hx]; omega), if_pos hx, gst_eq, mrow_a7, mrow_7, if_pos (Int.le_refl 0), m_ofS (by omega) (by omega)]
      rfl
    · rw [if_pos (qB_f hx), if_neg hx, gst_eq, mrow_a7, mrow_7, if_neg (by omega)]
      rfl
  · rw [if_pos (qB_f h), if_neg h, gst_eq, mrow_a7, mrow_7, if_neg (by omega)]
    rfl
theorem a_number (hO : qOK r K) (hD : DR M (a + 1) r K) {p x : Int} : fX8_number g a p x M = some (sNumber r p x) := by
  unfold fX8_number sNumber
  rw [c_exS hO hD]
  by_cases h : 0 ≤ p ∧ p < r 2
  · rw [if_pos h, if_pos h]
    show ((fX3_numberAt g (a + 1 + 2 + (39 + 2 * p.toNat)) x M).bind fun x_5 => some (Sum.inr x_5)) = _
    rw [c_numberAt (hD.2.2.1 p h.1 h.2) (hO.len h.1 h.2)]
    rfl
  · rw [if_neg h, if_neg h]
    rfl
theorem b_number (hO : qOK r K) {p x : Int} : fX9_number g a p x (mrow M (a + 1) r) = some (qWert (sNumber r p x), mrow (gup M a 7 (qThr 3 (sNumber r p x))) (a + 1) r) := by
  have h2 := hO.2.2.1
  unfold fX9_number sNumber
  rw [m_isS h2, Option.bind_some]
  unfold fX9_number_14
  by_cases h : 0 ≤ p ∧ p < r 2
  · have hl := hO.len h.1 h.2
    rw [if_neg (by rw [qB_t h]; omega), if_pos h, gst_eq, mrow_a7, mrow_7, if_pos (Int.le_refl 0), m_ofS (by omega) (by omega), Option.bind_some, gwi_eq (by omega) (by omega), m_isIn, Option.bind_some]
    by_cases hx : 0 ≤ x ∧ x < rs r p 1
    · rw [if_neg (by rw [qB_t (by omega)]; omega), m_num (by omega) hl (by omega), if_pos hx]
      rfl
    · rw [if_pos (qB_f (by omega)), if_neg hx]
      rfl
  · rw [if_pos (qB_f h), if_neg h, gst_eq, mrow_a7, mrow_7, if_neg (by omega)]
    rfl
theorem a_slot (hO : qOK r K) (hD : DR M (a + 1) r K) {k : Int} : fX8_slot g a k M = some (sSlot r k) := by
  unfold fX8_slot sSlot fX8_checkSlot fX0_hasSlot
  rw [hD.1.1]
  by_cases h : 0 ≤ k ∧ k < r 0
  · rw [if_neg (by omega), if_neg (by omega), if_pos h]
    show ((fX0_lyingOn g (a + 1) k M).bind fun x_5 => some (Sum.inr x_5)) = _
    rw [c_lyingOn hD.2.2.2.1 hO.1.2 h]
    rfl
  · rw [if_neg h]
    by_cases h0 : k < 0
    · rw [if_pos h0]; rfl
    · rw [if_neg h0, if_pos (by omega)]; rfl
theorem b_slot (hO : qOK r K) {k : Int} : fX9_slot g a k (mrow M (a + 1) r) = some (qWert (sSlot r k), mrow (gup M a 7 (qThr 3 (sSlot r k))) (a + 1) r) := by
  unfold fX9_slot sSlot
  rw [m_isSl hO.1, Option.bind_some]
  unfold fX9_slot_14
  by_cases h : 0 ≤ k ∧ k < r 0
  · rw [if_neg (by rw [qB_t h]; omega), if_pos h, gst_eq, mrow_a7, mrow_7, if_pos (Int.le_refl 0), m_onSlot hO.2.2.1]
    rfl
  · rw [if_pos (qB_f h), if_neg h, gst_eq, mrow_a7, mrow_7, if_neg (by omega)]
    rfl
theorem a_why (hO : qOK r K) (hD : DR M (a + 1) r K) {p : Int} : fX8_whyStuck g a p M = some (sWhy r p) := by
  unfold fX8_whyStuck sWhy
  rw [c_exP hO hD]
  by_cases h : 0 ≤ p ∧ p < r 1
  · rw [if_pos h, if_pos h]
    show ((fX6_waitReason g (a + 1) (a + 1 + 1 + (8 + 4 * p.toNat)) M).bind fun x_5 => some (Sum.inr x_5)) = _
    rw [c_waitReason hO hD h]
    rfl
  · rw [if_neg h, if_neg h]
    rfl
theorem b_why (hO : qOK r K) {p : Int} : fX9_whyStuck g a p (mrow M (a + 1) r) = some (qWert (sWhy r p), mrow (gup M a 7 (qThr 3 (sWhy r p))) (a + 1) r) := by
  unfold fX9_whyStuck sWhy
  rw [m_isP hO.2.1, Option.bind_some]
  unfold fX9_whyStuck_14
  by_cases h : 0 ≤ p ∧ p < r 1
  · rw [if_neg (by rw [qB_t h]; omega), if_pos h, gst_eq, mrow_a7, mrow_7, if_pos (Int.le_refl 0), m_stuck hO h]
    rfl
  · rw [if_pos (qB_f h), if_neg h, gst_eq, mrow_a7, mrow_7, if_neg (by omega)]
    rfl
end Ask
