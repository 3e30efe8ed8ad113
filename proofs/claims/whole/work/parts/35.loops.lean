/-! PURE: loops over processes, on both sides -/
theorem tmod_wrap {x n : Int} (h0 : 0 ≤ x) (h1 : x < 2 * n) : x.tmod n = if x < n then x else x - n := by
  rw [Int.tmod_eq_emod_of_nonneg h0]
  by_cases h : x < n
  · rw [if_pos h, Int.emod_eq_of_lt h0 h]
  · rw [if_neg h]
    have e : x = (x - n) + n := by omega
    rw [e, Int.add_emod_right, Int.emod_eq_of_lt (by omega) (by omega)]
    omega
section Loops
variable {M : gMem} {a d : Nat} {r : gRow} {K : Int} {g : Nat → Nat}
/-- the first process that is ready and not stuck -/
def qLive (r : gRow) : Int := qFind (fun p => decide (rp r p 0 = 0 ∧ qStuck r p = 0)) (r 1).toNat 0
theorem qOK.p (h : qOK r K) {p : Int} (hp : 0 ≤ p ∧ p < r 1) : qOKp r K p := h.2.2.2.2.2.2.1 p hp.1 hp.2
theorem m_stuck (hO : qOK r K) {p : Int} (hp : 0 ≤ p ∧ p < r 1) : fX9_stuckBy g a p (mrow M (a + 1) r) = some (qStuck r p) := by
  have q := hO.p hp
  have h1 := hO.2.1
  exact m_stuckBy hO.2.2.1 (by omega) q.2.2.1.1 q.2.2.2.1.2 (hO.hand p)
theorem m_isDeskStuck_lp (hO : qOK r K) : ∀ (n : Nat) (p : Int) (fu : Nat), 0 ≤ p → p + n = r 1 → n < fu → fX9_isDeskStuck_2 g fu a p (mrow M (a + 1) r) = some (if qFind (fun p => decide (rp r p 0 = 0 ∧ qStuck r p = 0)) n p = -1 then (if qCountOf r 0 ≤ 0 then 0 else 1) else 0) := by
  have h1 := hO.2.1
  intro n
  induction n with
  | zero =>
    intro p fu h0 hs hf
    obtain ⟨fu, rfl⟩ := fuS hf
    unfold fX9_isDeskStuck_2 qFind
    simp (disch := omega) only [if_pos, mrow_at, tn1, m_countOf h1, Option.bind_some]
    split <;> rfl
  | succ n ih =>
    intro p fu h0 hs hf
    obtain ⟨fu, rfl⟩ := fuS hf
    unfold fX9_isDeskStuck_2 qFind fX9_isDeskStuck_30
    simp (disch := omega) only [if_pos, mrow_at, tn1, if_neg, m_isReady, Option.bind_some, gst_eq, gwi_eq, m_stuck hO (p := p) ⟨h0, by omega⟩, ih (p + 1) fu]
    by_cases hr : rp r p 0 = 0
    · by_cases hq : qStuck r p = 0
      · rw [if_neg (by rw [qB_t hr]; omega), if_pos hq, if_pos (show decide (rp r p 0 = 0 ∧ qStuck r p = 0) = true from decide_eq_true ⟨hr, hq⟩), if_neg (by omega)]
      · rw [if_neg (by rw [qB_t hr]; omega), if_neg hq, if_neg (show ¬ decide (rp r p 0 = 0 ∧ qStuck r p = 0) = true from fun z => hq (of_decide_eq_true z).2)]
    · rw [if_pos (qB_f hr), if_neg (show ¬ decide (rp r p 0 = 0 ∧ qStuck r p = 0) = true from fun z => hr (of_decide_eq_true z).1)]
theorem qCnt_zero {P : Int → Bool} : ∀ (n : Nat) (s : Int), qCnt P n s = 0 → ∀ i : Int, s ≤ i → i < s + n → P i = false := by
  intro n
  induction n with
  | zero => intro s _ i h1 h2; omega
  | succ n ih =>
    intro s h i h1 h2
    have := (qCnt_rng P n (s + 1)).1
    unfold qCnt at h
    by_cases hp : P s = true
    · rw [if_pos hp] at h; omega
    · rw [if_neg hp] at h
      by_cases hi : i = s
      · rw [hi]; simpa using hp
      · exact ih (s + 1) (by omega) i (by omega) (by omega)
theorem m_isDeskStuck (hO : qOK r K) : fX9_isDeskStuck g a (mrow M (a + 1) r) = some (if qLive r = -1 then (if qCountOf r 0 ≤ 0 then 0 else 1) else 0) := by
  have h1 := hO.2.1
  unfold fX9_isDeskStuck qLive
  exact m_isDeskStuck_lp hO _ 0 gF (by omega) (by omega) (by unfold gF; omega)
theorem m_isOver (hO : qOK r K) : fX9_isOver g a (mrow M (a + 1) r) = some (qB (qLive r = -1)) := by
  have h1 := hO.2.1
  unfold fX9_isOver
  rw [m_countOf h1, Option.bind_some, m_isDeskStuck hO, Option.bind_some]
  have hc := (qCnt_rng (fun p => decide (rp r p 0 = 0)) (r 1).toNat 0).1
  by_cases h0 : qCountOf r 0 = 0
  · rw [if_pos h0]
    have hz := qCnt_zero (r 1).toNat 0 h0
    have hl : qLive r = -1 := by
      unfold qLive
      refine qFind_none (fun j q1 q2 => ?_)
      have := of_decide_eq_false (hz j q1 (by omega))
      exact decide_eq_false (fun z => this z.1)
    rw [qB_t hl]
  · rw [if_neg h0]
    by_cases hl : qLive r = -1
    · have : 0 ≤ qCountOf r 0 := hc
      rw [qB_t hl, if_pos hl, if_neg (show ¬ qCountOf r 0 ≤ 0 by omega), if_neg (by omega)]
    · rw [qB_f hl, if_neg hl, if_pos rfl]
theorem c_isOver_lp (hO : qOK r K) (hD : DR M d r K) : ∀ (n : Nat) (p : Int) (fu : Nat), 0 ≤ p → p + n = r 1 → n < fu → fX6_isOver_2 g fu d p M = some (qB (qFind (fun p => decide (rp r p 0 = 0 ∧ qStuck r p = 0)) n p = -1)) := by
  have h1 := hO.2.1
  intro n
  induction n with
  | zero =>
    intro p fu h0 hs hf
    obtain ⟨fu, rfl⟩ := fuS hf
    unfold fX6_isOver_2 qFind
    rw [hD.1.2.1, if_pos (by omega), qB_t rfl]
  | succ n ih =>
    intro p fu h0 hs hf
    obtain ⟨fu, rfl⟩ := fuS hf
    have hP := hD.2.1 p h0 (by omega)
    unfold fX6_isOver_2 qFind fX6_isOver_37
    rw [hD.1.2.1, if_neg (by omega), c_procAt_in hD.1 h1 ⟨h0, by omega⟩, Option.bind_some, if_neg (by omega), hP.f.1, c_waitReason hO hD ⟨h0, by omega⟩, Option.bind_some]
    simp (disch := omega) only [gst_eq, gwi_eq, ih (p + 1) fu]
    by_cases hr : rp r p 0 = 0
    · by_cases hq : qStuck r p = 0
      · rw [if_pos hr, if_pos hq, if_pos (show decide (rp r p 0 = 0 ∧ qStuck r p = 0) = true from decide_eq_true ⟨hr, hq⟩), qB_f (by omega)]
      · rw [if_pos hr, if_neg hq, if_neg (show ¬ decide (rp r p 0 = 0 ∧ qStuck r p = 0) = true from fun z => hq (of_decide_eq_true z).2)]
    · rw [if_neg hr, if_neg (show ¬ decide (rp r p 0 = 0 ∧ qStuck r p = 0) = true from fun z => hr (of_decide_eq_true z).1)]
theorem c_isOver (hO : qOK r K) (hD : DR M d r K) : fX6_isOver g d M = some (qB (qLive r = -1)) := by
  have h1 := hO.2.1
  unfold fX6_isOver qLive
  exact c_isOver_lp hO hD _ 0 gF (by omega) (by omega) (by unfold gF; omega)
/-- the next process that is ready, behind x, among n -/
def qNx (r : gRow) : Nat → Int → Int
  | 0, _ => -1
  | n + 1, x => if rp r (if x + 1 < r 1 then x + 1 else 0) 0 = 0 then (if x + 1 < r 1 then x + 1 else 0) else qNx r n (if x + 1 < r 1 then x + 1 else 0)
def qNext (r : gRow) : Int := qNx r (r 1).toNat (r 4)
theorem m_next_lp (h1 : 1 ≤ r 1 ∧ r 1 ≤ 8) (h4 : -1 ≤ r 4 ∧ r 4 < r 1) : ∀ (n : Nat) (k x : Int) (fu : Nat), 1 ≤ k → k + n = r 1 + 1 → x = (if r 4 + k - 1 < r 1 then r 4 + k - 1 else r 4 + k - 1 - r 1) → n < fu → fX9_nextOne_2 g fu a k (mrow M (a + 1) r) = some (qNx r n x) := by
  intro n
  induction n with
  | zero =>
    intro k x fu h0 hs hx hf
    obtain ⟨fu, rfl⟩ := fuS hf
    unfold fX9_nextOne_2 qNx
    simp (disch := omega) only [if_pos, mrow_at, tn1]
  | succ n ih =>
    intro k x fu h0 hs hx hf
    obtain ⟨fu, rfl⟩ := fuS hf
    unfold fX9_nextOne_2 qNx
    have ht : (r 4 + k).tmod (r 1) = if x + 1 < r 1 then x + 1 else 0 := by
      rw [tmod_wrap (by omega) (by omega)]
      by_cases q : r 4 + k - 1 < r 1
      · rw [if_pos q] at hx
        by_cases q2 : r 4 + k < r 1
        · rw [if_pos q2, if_pos (by omega)]; omega
        · rw [if_neg q2, if_neg (by omega)]; omega
      · rw [if_neg q] at hx
        rw [if_neg (by omega), if_pos (by omega)]; omega
    have hb : 0 ≤ (if x + 1 < r 1 then x + 1 else 0) ∧ (if x + 1 < r 1 then x + 1 else 0) < r 1 := by
      by_cases q : r 4 + k - 1 < r 1
      · rw [if_pos q] at hx; split <;> omega
      · rw [if_neg q] at hx; split <;> omega
    simp (disch := omega) only [if_pos, mrow_at, tn1, tn4, if_neg, gwi_eq, gst_eq]
    rw [ht]
    have ih' := ih (k + 1) (if x + 1 < r 1 then x + 1 else 0) fu (by omega) (by omega) (by
      rw [← ht, tmod_wrap (by omega) (by omega)]
      by_cases q2 : r 4 + k < r 1
      · rw [if_pos q2, if_pos (by omega)]; omega
      · rw [if_neg q2, if_neg (by omega)]; omega) (by omega)
    generalize (if x + 1 < r 1 then x + 1 else 0) = y at hb ih' ⊢
    rw [m_isReady ⟨hb.1, by omega⟩, Option.bind_some]
    by_cases hr : rp r y 0 = 0
    · rw [if_neg (by rw [qB_t hr]; omega), if_pos hr]
    · rw [if_pos (qB_f hr), if_neg hr, ih']
theorem m_next (hO : qOK r K) : fX9_nextOne g a (mrow M (a + 1) r) = some (qNext r) := by
  have h1 := hO.2.1
  have h4 := hO.2.2.2.2.1
  unfold fX9_nextOne qNext
  exact m_next_lp h1 h4 (r 1).toNat 1 (r 4) gF (by omega) (by omega) (by rw [if_pos (by omega)]; omega) (by unfold gF; omega)
theorem c_next_lp (h1 : 1 ≤ r 1 ∧ r 1 ≤ 8) (hd : DRd M d r) (hP : DRP M d r) : ∀ (n : Nat) (i x : Int) (fu : Nat), 0 ≤ i → i + n = r 1 → -1 ≤ x ∧ x < r 1 → n < fu → fX0_nextProc_7 g fu d x i M = some (qNx r n x) := by
  intro n
  induction n with
  | zero =>
    intro i x fu h0 hs hx hf
    obtain ⟨fu, rfl⟩ := fuS hf
    unfold fX0_nextProc_7 qNx
    rw [hd.2.1, if_pos (by omega)]
  | succ n ih =>
    intro i x fu h0 hs hx hf
    obtain ⟨fu, rfl⟩ := fuS hf
    unfold fX0_nextProc_7 qNx
    have step : ∀ y : Int, 0 ≤ y ∧ y < r 1 → fX0_nextProc_32 g (fX0_nextProc_7 g fu) d i y M = some (if rp r y 0 = 0 then y else qNx r n y) := by
      intro y hy
      unfold fX0_nextProc_32 fX0_nextProc_52
      rw [c_procAt_in hd h1 hy, Option.bind_some, if_neg (by omega), (hP y hy.1 hy.2).f.1]
      simp (disch := omega) only [gst_eq, gwi_eq]
      by_cases hr : rp r y 0 = 0
      · rw [if_pos hr, if_pos hr]
      · rw [if_neg hr, if_neg hr, ih (i + 1) y fu (by omega) (by omega) (by omega) (by omega)]
    rw [hd.2.1, if_neg (by omega)]
    simp (disch := omega) only [gwi_eq]
    by_cases hq : r 1 ≤ x + 1
    · rw [if_pos hq, step 0 (by omega)]
      simp (disch := omega) only [if_neg]
    · rw [if_neg hq, step (x + 1) (by omega)]
      simp (disch := omega) only [if_pos]
theorem c_next (hO : qOK r K) (hD : DR M d r K) : fX0_nextProc g d M = some (qNext r) := by
  have h1 := hO.2.1
  have h4 := hO.2.2.2.2.1
  unfold fX0_nextProc qNext
  rw [gst_eq, hD.1.2.2.2.2]
  exact c_next_lp h1 hD.1 hD.2.1 (r 1).toNat 0 (r 4) gF (by omega) (by omega) (by omega) (by unfold gF; omega)
theorem qNx_in (h1 : 1 ≤ r 1) : ∀ (n : Nat) (x : Int), -1 ≤ x → qNx r n x = -1 ∨ ((0 ≤ qNx r n x ∧ qNx r n x < r 1) ∧ rp r (qNx r n x) 0 = 0) := by
  intro n
  induction n with
  | zero => intro x _; exact Or.inl rfl
  | succ n ih =>
    intro x hx
    unfold qNx
    have hb : 0 ≤ (if x + 1 < r 1 then x + 1 else 0) ∧ (if x + 1 < r 1 then x + 1 else 0) < r 1 := by split <;> omega
    generalize (if x + 1 < r 1 then x + 1 else 0) = y at hb ⊢
    by_cases hr : rp r y 0 = 0
    · rw [if_pos hr]; exact Or.inr ⟨hb, hr⟩
    · rw [if_neg hr]; exact ih y (by omega)
/-- where one is ready, the next is found -/
theorem qNx_found (h1 : 1 ≤ r 1) : ∀ (n : Nat) (x : Int), -1 ≤ x → x < r 1 → (∃ j : Int, 1 ≤ j ∧ j ≤ n ∧ rp r (if x + j < r 1 then x + j else x + j - r 1) 0 = 0 ∧ x + j < 2 * r 1) → qNx r n x ≠ -1 := by
  intro n
  induction n with
  | zero => intro x _ _ ⟨j, q1, q2, _⟩; omega
  | succ n ih =>
    intro x hx hx2 ⟨j, q1, q2, q3, q4⟩
    unfold qNx
    have hb : 0 ≤ (if x + 1 < r 1 then x + 1 else 0) ∧ (if x + 1 < r 1 then x + 1 else 0) < r 1 := by split <;> omega
    by_cases hr : rp r (if x + 1 < r 1 then x + 1 else 0) 0 = 0
    · rw [if_pos hr]; omega
    · rw [if_neg hr]
      refine ih _ (by omega) hb.2 ⟨j - 1, ?_, by omega, ?_, ?_⟩
      · rcases Int.lt_or_le 1 j with q | q
        · omega
        · exfalso
          have hj : j = 1 := by omega
          rw [hj] at q3
          apply hr
          by_cases hq : x + 1 < r 1
          · rw [if_pos hq] at q3 ⊢; exact q3
          · rw [if_neg hq] at q3 ⊢
            have : x + 1 - r 1 = 0 := by omega
            rw [this] at q3; exact q3
      · by_cases hq : x + 1 < r 1
        · rw [if_pos hq]
          have e1 : x + 1 + (j - 1) = x + j := by omega
          rw [e1]; exact q3
        · rw [if_neg hq]
          have hx3 : x + 1 = r 1 := by omega
          rw [if_neg (show ¬ x + j < r 1 by omega)] at q3
          have e1 : (0 : Int) + (j - 1) = x + j - r 1 := by omega
          rw [e1, if_pos (by omega)]; exact q3
      · split <;> omega
end Loops
