/-! PURE: more questions -/
def qStSet (r : gRow) : Nat → Int → Int → Int
  | 0, _, x => x
  | n + 1, p, x => qStSet r n (p + 1) (if qStuck r p = 0 then x else gor x (gshl 1 p))
def sStuck (r : gRow) : Int := qStSet r (r 1).toNat 0 0
def qSpread (r : gRow) : Nat → Int → Int → Int → Int
  | 0, _, x, y => x - y
  | n + 1, p, x, y => qSpread r n (p + 1) (gmax x (rp r p 7)) (gmin y (rp r p 7))
def sUnfair (r : gRow) : Int := qSpread r (r 1 - 1).toNat 1 (rp r 0 7) (rp r 0 7)
def qHung (r : gRow) : Nat → Int → Int → Int
  | 0, _, b => b
  | n + 1, p, b => qHung r n (p + 1) (if rp r p 0 = 0 ∧ (b = -1 ∨ rp r p 7 < rp r b 7) then p else b)
def sHungriest (r : gRow) : Int := qHung r (r 1).toNat 0 (-1)
def qHas (r : gRow) (p c v : Int) : Nat → Int → Int
  | 0, _ => 0
  | n + 1, i => if rp r p (18 + i) = c ∧ rp r p (42 + i) = v then 1 else qHas r p c v n (i + 1)
def qHasC (r : gRow) (p c v : Int) : Int := qHas r p c v (rp r p 3).toNat 0
def qHelp (r : gRow) (x c v : Int) : Nat → Int → Int → Int
  | 0, _, z => z
  | n + 1, p, z => qHelp r x c v n (p + 1) (if (¬ p = x) ∧ rp r p 0 = 0 ∧ gand (gshr (rp r p 5) v) 1 = 1 ∧ ¬ qHasC r p c v = 0 then gor z (gshl 1 p) else z)
def sHelpers (r : gRow) (p : Int) : Nat ⊕ Int :=
  if 0 ≤ p ∧ p < r 1 then .inr (if qStuck r p = 0 then 0 else qHelp r p (if qStuck r p = 2 then 8 else 9) (qOpd r p) (r 1).toNat 0 0) else .inl 3
section Ask2
variable {M M' : gMem} {d a : Nat} {r r' : gRow} {K K' : Int} {g : Nat → Nat}
theorem a_command (hO : qOK r K) (hD : DR M (a + 1) r K) {p k x : Int} : fX8_command g a p k x M = some (sCommand r p k x) := by
  unfold fX8_command sCommand
  rw [c_exP hO hD]
  by_cases h : 0 ≤ p ∧ p < r 1
  · have hOp := hO.p h
    have hP := hD.2.1 p h.1 h.2
    rw [if_pos h, if_pos h]
    show ((fX4_kindAt g (a + 1 + 1 + (8 + 4 * p.toNat)) k M).bind fun x_5 => _) = _
    by_cases hk : 0 ≤ k ∧ k < rp r p 3
    · have := (hOp.2.2.2.2.2.2.2.2.2.2 k hk.1 hk.2).1
      rw [c_kindAt_in hP hOp.2.2.2.1.2 hk, Option.bind_some, if_neg (by omega), if_pos hk, Option.bind_some, c_operandAt_in hP hOp.2.2.2.1.2 hk, Option.bind_some]
      by_cases h0 : x = 0
      · rw [if_pos h0, if_pos (by omega), if_pos h0]
      · rw [if_neg h0, if_neg h0]
        by_cases h1 : x = 1
        · rw [if_pos h1, if_pos (by omega)]
        · rw [if_neg h1, if_neg (by omega)]
    · rw [c_kindAt_out hP hOp.2.2.2.1.2 hk, Option.bind_some, if_pos rfl, if_neg hk]
  · rw [if_neg h, if_neg h]
    rfl
theorem b_command (hO : qOK r K) {p k x : Int} : fX9_command g a p k x (mrow M (a + 1) r) = some (qWert (sCommand r p k x), mrow (gup M a 7 (qThr 3 (sCommand r p k x))) (a + 1) r) := by
  have h1 := hO.2.1
  unfold fX9_command sCommand
  rw [m_isP h1, Option.bind_some]
  unfold fX9_command_25 fX9_command_43 fX9_command_70
  by_cases h : 0 ≤ p ∧ p < r 1
  · have h3 := (hO.p h).2.2.2.1
    rw [if_neg (by rw [qB_t h]; omega), m_of (by omega) (by omega), Option.bind_some, gwi_eq (by omega) (by omega), m_isIn, Option.bind_some, if_pos h]
    by_cases hk : 0 ≤ k ∧ k < rp r p 3
    · rw [if_neg (by rw [qB_t (by omega)]; omega), if_pos hk, m_isIn, Option.bind_some]
      by_cases hx : 0 ≤ x ∧ x ≤ 1
      · rw [if_neg (by rw [qB_t hx]; omega), if_pos hx, gst_eq, mrow_a7, mrow_7, if_pos (Int.le_refl 0), gwi_eq (by omega) (by omega), gwi_eq (by omega) (by omega), m_of (by omega) (by omega), m_of (by omega) (by omega)]
        by_cases h0 : x = 0
        · rw [if_pos h0, if_pos h0]; rfl
        · rw [if_neg h0, if_neg h0]; rfl
      · rw [if_pos (qB_f hx), if_neg hx, gst_eq, mrow_a7, mrow_7, if_neg (by omega)]
        rfl
    · rw [if_pos (qB_f (by omega)), if_neg hk, gst_eq, mrow_a7, mrow_7, if_neg (by omega)]
      rfl
  · rw [if_pos (qB_f h), if_neg h, gst_eq, mrow_a7, mrow_7, if_neg (by omega)]
    rfl
theorem c_sayingAt {b : Nat} {p : Int} (hP : DRp M b r p) (h9 : 0 ≤ rp r p 9 ∧ rp r p 9 ≤ 2000000000) {k : Int} : fX4_sayingAt g b k M = some (qSaid r p k) := by
  unfold fX4_sayingAt fX4_sayingAt_18 fX4_sayingAt_55 qSaid
  rw [hP.f.2.2.2.2.2.2.2.2.2]
  by_cases h : (0 ≤ k ∧ k ≤ 19) ∧ k < rp r p 9
  · have q := hP.2.2.2.1 k h.1.1 (by omega) h.2
    have hx : 0 ≤ (rp r p 9 - 1 - k).tmod 20 ∧ (rp r p 9 - 1 - k).tmod 20 < 20 := by rw [tmod_pos (by omega)]; omega
    rw [if_neg (by omega), if_neg (by omega), if_pos (by omega), if_pos h, gwi_eq (x := rp r p 9 - 1) (by omega) (by omega), gwi_eq (by omega) (by omega), gst_eq, if_neg (by omega), if_neg (by omega), if_pos hx, q]
  · rw [if_neg h]
    by_cases h0 : k < 0
    · rw [if_pos h0]
    · rw [if_neg h0]
      by_cases h2 : 20 ≤ k
      · rw [if_pos h2]
      · rw [if_neg h2, if_neg (by omega)]
theorem m_saidOf (hO : qOK r K) (hK : K ≤ 1000000000) {p k : Int} (hp : 0 ≤ p ∧ p < r 1) : fX9_saidOf g a p k (mrow M (a + 1) r) = some (qSaid r p k) := by
  have h1 := hO.2.1
  unfold fX9_saidOf fX9_saidOf_33 qSaid
  rw [m_isIn, Option.bind_some]
  by_cases h : 0 ≤ k ∧ k ≤ 19
  · rw [if_neg (by rw [qB_t h]; omega), m_of (by omega) (by omega), Option.bind_some]
    by_cases h2 : k < rp r p 9
    · rw [if_neg (by omega), if_pos ⟨h, h2⟩, gwi_eq (by omega) (by omega), m_of (by omega) (by omega)]
      rfl
    · rw [if_pos (by omega), if_neg (fun z => h2 z.2)]
  · rw [if_pos (qB_f h), if_neg (fun z => h z.1)]
theorem a_said (hO : qOK r K) (hK : K ≤ 1000000000) (hD : DR M (a + 1) r K) {p k : Int} : fX8_said g a p k M = some (sSaid r p k) := by
  unfold fX8_said sSaid
  rw [c_exP hO hD]
  by_cases h : 0 ≤ p ∧ p < r 1
  · have h9 := (hO.p h).2.2.2.2.2.2.2.2.2.1
    rw [if_pos h, if_pos h]
    show ((fX4_sayingAt g (a + 1 + 1 + (8 + 4 * p.toNat)) k M).bind fun x_5 => some (Sum.inr x_5)) = _
    rw [c_sayingAt (hD.2.1 p h.1 h.2) (by omega)]
    rfl
  · rw [if_neg h, if_neg h]
    rfl
theorem b_said (hO : qOK r K) (hK : K ≤ 1000000000) {p k : Int} : fX9_said g a p k (mrow M (a + 1) r) = some (qWert (sSaid r p k), mrow (gup M a 7 (qThr 3 (sSaid r p k))) (a + 1) r) := by
  unfold fX9_said sSaid
  rw [m_isP hO.2.1, Option.bind_some]
  unfold fX9_said_14
  by_cases h : 0 ≤ p ∧ p < r 1
  · rw [if_neg (by rw [qB_t h]; omega), if_pos h, gst_eq, mrow_a7, mrow_7, if_pos (Int.le_refl 0), m_saidOf hO hK h]
    rfl
  · rw [if_pos (qB_f h), if_neg h, gst_eq, mrow_a7, mrow_7, if_neg (by omega)]
    rfl
theorem a_trace (hO : qOK r K) (hK : K ≤ 1000000000) (hD : DR M (a + 1) r K) {k x : Int} : fX8_trace g a k x M = some (sTrace r k x) := by
  obtain ⟨t1, t2, t3, t4⟩ := hD.2.2.2.2
  have h5 := hO.2.2.2.2.2.1
  unfold fX8_trace fX2_size fX2_entry sTrace
  rw [← t3, Option.bind_some]
  by_cases h : 0 ≤ k ∧ k < r 5
  · have hn : r 5 ≤ M (a + 1 + 4) 4 := by rw [t3]; unfold gmin; split <;> omega
    obtain ⟨u1, u2, u3, u4⟩ := t4 k h.1 h.2
    rw [if_neg (by omega), if_pos h.2, if_pos h, gwi_eq (x := M (a + 1 + 4) 4 - 1) (by omega) (by omega), gwi_eq (by omega) (by omega), gst_eq]
    have hx : 0 ≤ (M (a + 1 + 4) 4 - 1 - k).tmod 40 ∧ (M (a + 1 + 4) 4 - 1 - k).tmod 40 < 40 := by rw [tmod_pos (by omega)]; omega
    by_cases hx' : 0 ≤ x ∧ x ≤ 3
    · have e : x = 0 ∨ x = 1 ∨ x = 2 ∨ x = 3 := by omega
      rw [if_pos hx', if_neg (by omega), if_pos hx'.2, if_neg (by omega), if_pos hx.2]
      rcases e with q | q | q | q
      · subst q; rw [if_pos rfl, if_pos hx, u1, Option.bind_some, show 1030 + 4 * (r 5 - 1 - k) + 0 = 1030 + 4 * (r 5 - 1 - k) by omega]
      · subst q; rw [if_neg (by omega), if_pos rfl, if_pos hx, u2, Option.bind_some]
      · subst q; rw [if_neg (by omega), if_neg (by omega), if_pos rfl, if_pos hx, u3, Option.bind_some]
      · subst q; rw [if_neg (by omega), if_neg (by omega), if_neg (by omega), if_pos hx, u4, Option.bind_some]
    · rw [if_neg hx']
      by_cases h0 : x < 0
      · rw [if_pos h0]
      · rw [if_neg h0, if_neg (by omega)]
  · rw [if_neg h]
    by_cases h0 : k < 0
    · rw [if_pos h0]
    · rw [if_neg h0, if_neg (by omega)]
theorem b_trace (hO : qOK r K) {k x : Int} : fX9_trace g a k x (mrow M (a + 1) r) = some (qWert (sTrace r k x), mrow (gup M a 7 (qThr 3 (sTrace r k x))) (a + 1) r) := by
  have h5 := hO.2.2.2.2.2.1
  unfold fX9_trace fX9_trace_35 sTrace
  have t5 : ∀ N : gMem, mrow N (a + 1) r (a + 1) (5 : Int).toNat = r 5 := fun N => by rw [mrow_at]; rfl
  rw [if_pos (by omega), t5, m_isIn, Option.bind_some, gwi_eq (by omega) (by omega)]
  by_cases h : 0 ≤ k ∧ k < r 5
  · rw [if_neg (by rw [qB_t (by omega)]; omega), m_isIn, Option.bind_some, if_pos h]
    by_cases hx : 0 ≤ x ∧ x ≤ 3
    · rw [if_neg (by rw [qB_t hx]; omega), if_pos hx, gst_eq, mrow_a7, mrow_7, if_pos (Int.le_refl 0), if_pos (by omega), t5]
      simp (disch := omega) only [gwi_eq, if_pos, mrow_at]
      rfl
    · rw [if_pos (qB_f hx), if_neg hx, gst_eq, mrow_a7, mrow_7, if_neg (by omega)]
      rfl
  · rw [if_pos (qB_f (by omega)), if_neg h, gst_eq, mrow_a7, mrow_7, if_neg (by omega)]
    rfl
theorem gor_0 {x : Int} (h : gRI x) : gor x 0 = x := by
  unfold gor
  have : gi x ||| gi 0 = gi x := by
    have e : gi 0 = (0 : Int32) := by decide
    rw [e]; exact Int32.or_zero
  rw [this, gi_toInt h]
theorem gor_r (x y : Int) : gRI (gor x y) := gi_r _
theorem c_stuck_lp (hO : qOK r K) (hD : DR M d r K) : ∀ (n : Nat) (x p : Int) (fu : Nat), 0 ≤ p → p + n = r 1 → n < fu → fX6_stuckSet_4 g fu d x p M = some (qStSet r n p x) := by
  have h1 := hO.2.1
  intro n
  induction n with
  | zero =>
    intro x p fu h0 hs hf
    obtain ⟨fu, rfl⟩ := fuS hf
    unfold fX6_stuckSet_4 qStSet
    rw [hD.1.2.1, if_pos (by omega)]
  | succ n ih =>
    intro x p fu h0 hs hf
    obtain ⟨fu, rfl⟩ := fuS hf
    unfold fX6_stuckSet_4 qStSet fX6_stuckSet_36
    rw [hD.1.2.1, if_neg (by omega), c_procAt_in hD.1 h1 (by omega), Option.bind_some, if_neg (by omega), c_waitReason hO hD (by omega), Option.bind_some]
    by_cases e : qStuck r p = 0
    · rw [if_pos e, if_pos e, gst_eq, gwi_eq (by omega) (by omega), ih _ _ fu (by omega) (by omega) (by omega)]
    · rw [if_neg e, if_neg e, gst_eq, gst_eq, gwi_eq (by omega) (by omega), ih _ _ fu (by omega) (by omega) (by omega)]
theorem a_stuck (hO : qOK r K) (hD : DR M (a + 1) r K) : fX8_stuck g a M = some (sStuck r) := by
  have h1 := hO.2.1
  unfold fX8_stuck fX6_stuckSet sStuck
  rw [c_stuck_lp hO hD (r 1).toNat 0 0 gF (by omega) (by omega) (by unfold gF; omega)]
  rfl
theorem qStuck_rng {p : Int} : 0 ≤ qStuck r p ∧ qStuck r p ≤ 2 := by
  have := qBlock_rng (r := r) (p := p)
  unfold qStuck
  split <;> omega
theorem m_stuck_lp (hO : qOK r K) : ∀ (n : Nat) (x p : Int) (fu : Nat), 0 ≤ p → p + n = r 1 → gRI x → n < fu → fX9_stuck_9 g fu a x p (mrow M (a + 1) r) = some (qStSet r n p x, mrow M (a + 1) r) := by
  have h1 := hO.2.1
  have t1 : mrow M (a + 1) r (a + 1) (1 : Int).toNat = r 1 := by rw [mrow_at]; rfl
  intro n
  induction n with
  | zero =>
    intro x p fu h0 hs hx hf
    obtain ⟨fu, rfl⟩ := fuS hf
    unfold fX9_stuck_9 qStSet
    rw [if_pos (by omega), t1, if_pos (by omega)]
  | succ n ih =>
    intro x p fu h0 hs hx hf
    obtain ⟨fu, rfl⟩ := fuS hf
    have hr := qStuck_rng (r := r) (p := p)
    unfold fX9_stuck_9 qStSet fX9_stuck_35
    rw [if_pos (by omega), t1, if_neg (by omega), m_stuck hO (by omega), Option.bind_some]
    by_cases e : qStuck r p = 0
    · rw [if_pos (by omega), if_pos e, gst_eq, gst_eq, gor_0 hx, gwi_eq (by omega) (by omega), ih _ _ fu (by omega) (by omega) hx (by omega)]
    · rw [if_neg (by omega), if_neg e, gst_eq, gst_eq, gwi_eq (by omega) (by omega), ih _ _ fu (by omega) (by omega) (gor_r _ _) (by omega)]
theorem b_stuck (hO : qOK r K) : fX9_stuck g a (mrow M (a + 1) r) = some (sStuck r, mrow (gup M a 7 0) (a + 1) r) := by
  have h1 := hO.2.1
  unfold fX9_stuck sStuck
  rw [gst_eq, mrow_a7, m_stuck_lp hO (r 1).toNat 0 0 gF (by omega) (by omega) (by unfold gRI; omega) (by unfold gF; omega)]
theorem c_spread_lp (hO : qOK r K) (hK : K ≤ 1000000000) (hD : DR M d r K) : ∀ (n : Nat) (x y p : Int) (fu : Nat), 1 ≤ p → p + n = r 1 → (0 ≤ x ∧ x ≤ 1000000000) → (0 ≤ y ∧ y ≤ 1000000000) → n < fu → fX0_stepSpread_6 g fu d x y p M = some (qSpread r n p x y) := by
  have h1 := hO.2.1
  intro n
  induction n with
  | zero =>
    intro x y p fu h0 hs hx hy hf
    obtain ⟨fu, rfl⟩ := fuS hf
    unfold fX0_stepSpread_6 qSpread fX0_stepSpread_73
    rw [hD.1.2.1, if_pos (by omega), gwi_eq (by omega) (by omega)]
  | succ n ih =>
    intro x y p fu h0 hs hx hy hf
    obtain ⟨fu, rfl⟩ := fuS hf
    have b := (hO.p (p := p) ⟨by omega, by omega⟩).2.2.2.2.2.2.2.1
    unfold fX0_stepSpread_6 qSpread fX0_stepSpread_66
    rw [hD.1.2.1, if_neg (by omega), if_neg (by omega), if_pos (by omega), (hD.2.1 p (by omega) (by omega)).f.2.2.2.2.2.2.2.1, gst_eq, if_neg (by omega), if_pos (by omega), gst_eq, gwi_eq (by omega) (by omega)]
    exact ih _ _ _ fu (by omega) (by omega) (by unfold gmax; split <;> omega) (by unfold gmin; split <;> omega) (by omega)
theorem a_unfair (hO : qOK r K) (hK : K ≤ 1000000000) (hD : DR M d r K) : fX0_stepSpread g d M = some (sUnfair r) := by
  have h1 := hO.2.1
  have b := (hO.p (p := 0) ⟨by omega, by omega⟩).2.2.2.2.2.2.2.1
  unfold fX0_stepSpread sUnfair
  have : gF = 19999 + 1 := rfl
  rw [this]
  unfold fX0_stepSpread_6 fX0_stepSpread_66
  have e : gmax 0 (rp r 0 7) = rp r 0 7 := by unfold gmax; split <;> omega
  have f := (hD.2.1 0 (by omega) (by omega)).f.2.2.2.2.2.2.2.1
  rw [hD.1.2.1, if_neg (by omega), if_neg (by omega), if_pos (by omega), f, gst_eq, if_pos rfl, if_pos (by omega), gst_eq, gwi_eq (by omega) (by omega), e]
  exact c_spread_lp hO hK hD (r 1 - 1).toNat (rp r 0 7) (rp r 0 7) 1 19999 (by omega) (by omega) (by omega) (by omega) (by omega)
theorem m_spread_lp (hO : qOK r K) (hK : K ≤ 1000000000) : ∀ (n : Nat) (x y p : Int) (fu : Nat), 1 ≤ p → p + n = r 1 → (0 ≤ x ∧ x ≤ 1000000000) → (0 ≤ y ∧ y ≤ 1000000000) → n < fu → fX9_unfairNow_12 g fu a x y p (mrow M (a + 1) r) = some (qSpread r n p x y) := by
  have h1 := hO.2.1
  have t1 : mrow M (a + 1) r (a + 1) (1 : Int).toNat = r 1 := by rw [mrow_at]; rfl
  intro n
  induction n with
  | zero =>
    intro x y p fu h0 hs hx hy hf
    obtain ⟨fu, rfl⟩ := fuS hf
    unfold fX9_unfairNow_12 qSpread
    rw [if_pos (by omega), t1, if_pos (by omega), gwi_eq (by omega) (by omega)]
  | succ n ih =>
    intro x y p fu h0 hs hx hy hf
    obtain ⟨fu, rfl⟩ := fuS hf
    have b := (hO.p (p := p) ⟨by omega, by omega⟩).2.2.2.2.2.2.2.1
    unfold fX9_unfairNow_12 qSpread
    rw [if_pos (by omega), t1, if_neg (by omega), m_of (by omega) (by omega), Option.bind_some, gst_eq, Option.bind_some, gst_eq, gst_eq, gwi_eq (by omega) (by omega)]
    exact ih _ _ _ fu (by omega) (by omega) (by unfold gmax; split <;> omega) (by unfold gmin; split <;> omega) (by omega)
theorem m_unfair (hO : qOK r K) (hK : K ≤ 1000000000) : fX9_unfairNow g a (mrow M (a + 1) r) = some (sUnfair r) := by
  have h1 := hO.2.1
  have b := (hO.p (p := 0) ⟨by omega, by omega⟩).2.2.2.2.2.2.2.1
  unfold fX9_unfairNow sUnfair
  rw [m_of (by omega) (by omega), Option.bind_some]
  exact m_spread_lp hO hK (r 1 - 1).toNat _ _ _ _ (by omega) (by omega) (by omega) (by omega) (by unfold gF; omega)
theorem c_hung_lp (hO : qOK r K) (hD : DR M (a + 1) r K) : ∀ (n : Nat) (b x p : Int) (fu : Nat), 0 ≤ p → p + n = r 1 → (b = -1 ∨ (0 ≤ b ∧ b < r 1) ∧ x = rp r b 7) → n < fu → fX8_hungriest_6 g fu a b x p M = some (qHung r n p b) := by
  have h1 := hO.2.1
  intro n
  induction n with
  | zero =>
    intro b x p fu h0 hs hb hf
    obtain ⟨fu, rfl⟩ := fuS hf
    unfold fX8_hungriest_6 qHung
    rw [hD.1.2.1, if_pos (by omega)]
  | succ n ih =>
    intro b x p fu h0 hs hb hf
    obtain ⟨fu, rfl⟩ := fuS hf
    have hP := (hD.2.1 p (by omega) (by omega)).f
    unfold fX8_hungriest_6 qHung fX8_hungriest_54 fX8_hungriest_62
    rw [hD.1.2.1, if_neg (by omega), c_procAt_in hD.1 h1 (by omega), Option.bind_some, if_neg (by omega), hP.1, hP.2.2.2.2.2.2.2.1]
    simp (disch := omega) only [gst_eq, gwi_eq]
    by_cases e : rp r p 0 = 0
    · rw [if_pos e]
      by_cases eb : b = -1
      · rw [if_pos eb, if_pos ⟨e, Or.inl eb⟩]
        exact ih _ _ _ fu (by omega) (by omega) (Or.inr ⟨⟨by omega, by omega⟩, rfl⟩) (by omega)
      · have hb' : (0 ≤ b ∧ b < r 1) ∧ x = rp r b 7 := by rcases hb with q | q; exact absurd q eb; exact q
        rw [if_neg eb]
        by_cases el : rp r p 7 < rp r b 7
        · rw [if_neg (by omega), if_pos ⟨e, Or.inr el⟩]
          exact ih _ _ _ fu (by omega) (by omega) (Or.inr ⟨⟨by omega, by omega⟩, rfl⟩) (by omega)
        · rw [if_pos (by omega), if_neg (by omega)]
          exact ih _ _ _ fu (by omega) (by omega) hb (by omega)
    · rw [if_neg e, if_neg (fun z => e z.1)]
      exact ih _ _ _ fu (by omega) (by omega) hb (by omega)
theorem a_hung (hO : qOK r K) (hD : DR M (a + 1) r K) : fX8_hungriest g a M = some (sHungriest r) := by
  have h1 := hO.2.1
  unfold fX8_hungriest sHungriest
  rw [gst_eq]
  exact c_hung_lp hO hD (r 1).toNat _ _ _ _ (by omega) (by omega) (Or.inl rfl) (by unfold gF; omega)
theorem m_hung_lp (hO : qOK r K) : ∀ (n : Nat) (b p : Int) (fu : Nat), 0 ≤ p → p + n = r 1 → (b = -1 ∨ (0 ≤ b ∧ b < r 1)) → n < fu → fX9_hungriest_9 g fu a b p (mrow M (a + 1) r) = some (qHung r n p b, mrow M (a + 1) r) := by
  have h1 := hO.2.1
  have t1 : mrow M (a + 1) r (a + 1) (1 : Int).toNat = r 1 := by rw [mrow_at]; rfl
  intro n
  induction n with
  | zero =>
    intro b p fu h0 hs hb hf
    obtain ⟨fu, rfl⟩ := fuS hf
    unfold fX9_hungriest_9 qHung
    rw [if_pos (by omega), t1, if_pos (by omega)]
  | succ n ih =>
    intro b p fu h0 hs hb hf
    obtain ⟨fu, rfl⟩ := fuS hf
    unfold fX9_hungriest_9 qHung fX9_hungriest_49 fX9_hungriest_51
    rw [if_pos (by omega), t1, if_neg (by omega), m_isReady (by omega), Option.bind_some]
    simp (disch := omega) only [gst_eq, gwi_eq]
    by_cases e : rp r p 0 = 0
    · rw [if_neg (by rw [qB_t e]; omega)]
      by_cases eb : b = -1
      · rw [if_pos eb, if_pos ⟨e, Or.inl eb⟩]
        exact ih _ _ fu (by omega) (by omega) (Or.inr ⟨by omega, by omega⟩) (by omega)
      · have hb' : 0 ≤ b ∧ b < r 1 := by rcases hb with q | q; exact absurd q eb; exact q
        rw [if_neg eb, m_of (by omega) (by omega), Option.bind_some, m_of (by omega) (by omega), Option.bind_some]
        by_cases el : rp r p 7 < rp r b 7
        · rw [if_neg (by omega), if_pos ⟨e, Or.inr el⟩]
          exact ih _ _ fu (by omega) (by omega) (Or.inr ⟨by omega, by omega⟩) (by omega)
        · rw [if_pos (by omega), if_neg (by omega)]
          exact ih _ _ fu (by omega) (by omega) hb (by omega)
    · rw [if_pos (qB_f e), if_neg (fun z => e z.1)]
      exact ih _ _ fu (by omega) (by omega) hb (by omega)
theorem b_hung (hO : qOK r K) : fX9_hungriest g a (mrow M (a + 1) r) = some (sHungriest r, mrow (gup M a 7 0) (a + 1) r) := by
  have h1 := hO.2.1
  unfold fX9_hungriest sHungriest
  rw [gst_eq, gst_eq, mrow_a7]
  exact m_hung_lp hO (r 1).toNat _ _ _ (by omega) (by omega) (Or.inl rfl) (by unfold gF; omega)
theorem c_has_lp {b : Nat} {p : Int} (hP : DRp M b r p) (h3 : 0 ≤ rp r p 3 ∧ rp r p 3 ≤ 24) {c v : Int} : ∀ (n : Nat) (i : Int) (fu : Nat), 0 ≤ i → i + n = rp r p 3 → n < fu → fX4_hasCommand_2 g fu b c v i M = some (qHas r p c v n i) := by
  intro n
  induction n with
  | zero =>
    intro i fu h0 hs hf
    obtain ⟨fu, rfl⟩ := fuS hf
    unfold fX4_hasCommand_2 qHas
    rw [hP.f.2.2.2.1, if_pos (by omega)]
  | succ n ih =>
    intro i fu h0 hs hf
    obtain ⟨fu, rfl⟩ := fuS hf
    unfold fX4_hasCommand_2 qHas fX4_hasCommand_30
    rw [hP.f.2.2.2.1, if_neg (by omega), c_kindAt_in hP h3.2 (by omega), Option.bind_some, c_operandAt_in hP h3.2 (by omega), Option.bind_some]
    simp (disch := omega) only [gst_eq, gwi_eq]
    rw [ih (i + 1) fu (by omega) (by omega) (by omega)]
    by_cases e1 : rp r p (18 + i) = c <;> by_cases e2 : rp r p (42 + i) = v <;> simp [e1, e2]
theorem c_has {b : Nat} {p : Int} (hP : DRp M b r p) (h3 : 0 ≤ rp r p 3 ∧ rp r p 3 ≤ 24) {c v : Int} : fX4_hasCommand g b c v M = some (qHasC r p c v) := by
  unfold fX4_hasCommand qHasC
  exact c_has_lp hP h3 _ _ _ (by omega) (by omega) (by unfold gF; omega)
theorem m_has_lp {p : Int} (hp : 0 ≤ p ∧ p < 8) (h3 : 0 ≤ rp r p 3 ∧ rp r p 3 ≤ 24) {c v : Int} : ∀ (n : Nat) (i : Int) (fu : Nat), 0 ≤ i → i + n = rp r p 3 → n < fu → fX9_hasCommand_3 g fu a p c v i (mrow M (a + 1) r) = some (qHas r p c v n i) := by
  intro n
  induction n with
  | zero =>
    intro i fu h0 hs hf
    obtain ⟨fu, rfl⟩ := fuS hf
    unfold fX9_hasCommand_3 qHas
    rw [m_of hp (by omega), Option.bind_some, if_pos (by omega)]
  | succ n ih =>
    intro i fu h0 hs hf
    obtain ⟨fu, rfl⟩ := fuS hf
    unfold fX9_hasCommand_3 qHas fX9_hasCommand_44
    rw [m_of hp (by omega), Option.bind_some, if_neg (by omega)]
    simp (disch := omega) only [gst_eq, gwi_eq, m_of, Option.bind_some]
    rw [ih (i + 1) fu (by omega) (by omega) (by omega)]
    by_cases e1 : rp r p (18 + i) = c <;> by_cases e2 : rp r p (42 + i) = v <;> simp [e1, e2]
theorem m_has {p : Int} (hp : 0 ≤ p ∧ p < 8) (h3 : 0 ≤ rp r p 3 ∧ rp r p 3 ≤ 24) {c v : Int} : fX9_hasCommand g a p c v (mrow M (a + 1) r) = some (qHasC r p c v) := by
  unfold fX9_hasCommand qHasC
  exact m_has_lp hp h3 _ _ _ (by omega) (by omega) (by unfold gF; omega)
theorem c_help_lp (hO : qOK r K) (hD : DR M (a + 1) r K) {x c v : Int} : ∀ (n : Nat) (z p : Int) (fu : Nat), 0 ≤ p → p + n = r 1 → n < fu → fX8_helpers_51 g fu a x c v z p M = some (.inr (qHelp r x c v n p z)) := by
  have h1 := hO.2.1
  intro n
  induction n with
  | zero =>
    intro z p fu h0 hs hf
    obtain ⟨fu, rfl⟩ := fuS hf
    unfold fX8_helpers_51 qHelp
    rw [hD.1.2.1, if_pos (by omega)]
  | succ n ih =>
    intro z p fu h0 hs hf
    obtain ⟨fu, rfl⟩ := fuS hf
    have hP := hD.2.1 p (by omega) (by omega)
    have h3 := (hO.p (p := p) ⟨by omega, by omega⟩).2.2.2.1
    have R := fun z => ih z (p + 1) fu (by omega) (by omega) (by omega)
    unfold fX8_helpers_51 qHelp fX8_helpers_124
    rw [hD.1.2.1, if_neg (by omega), c_procAt_in hD.1 h1 (by omega), Option.bind_some, if_neg (show ¬ (a + 1 + 1 + (8 + 4 * p.toNat) = 0) by omega), hP.f.1, c_mayUse hP, Option.bind_some, c_has hP h3, Option.bind_some]
    simp (disch := omega) only [gst_eq, gwi_eq, R]
    by_cases e1 : p = x <;> by_cases e2 : rp r p 0 = 0 <;> by_cases e3 : gand (gshr (rp r p 5) v) 1 = 1 <;> by_cases e4 : qHasC r p c v = 0 <;> simp [e1, e2, e3, e4] <;> simp_all
theorem m_help_lp (hO : qOK r K) {x c v : Int} : ∀ (n : Nat) (z p : Int) (fu : Nat), 0 ≤ p → p + n = r 1 → n < fu → fX9_helpers_72 g fu a x v c z p (mrow M (a + 1) r) = some (qHelp r x c v n p z, mrow M (a + 1) r) := by
  have h1 := hO.2.1
  have t1 : mrow M (a + 1) r (a + 1) (1 : Int).toNat = r 1 := by rw [mrow_at]; rfl
  intro n
  induction n with
  | zero =>
    intro z p fu h0 hs hf
    obtain ⟨fu, rfl⟩ := fuS hf
    unfold fX9_helpers_72 qHelp
    rw [if_pos (by omega), t1, if_pos (by omega)]
  | succ n ih =>
    intro z p fu h0 hs hf
    obtain ⟨fu, rfl⟩ := fuS hf
    have h3 := (hO.p (p := p) ⟨by omega, by omega⟩).2.2.2.1
    have R := fun z => ih z (p + 1) fu (by omega) (by omega) (by omega)
    unfold fX9_helpers_72 qHelp fX9_helpers_128
    rw [if_pos (by omega), t1, if_neg (by omega), m_isReady (by omega), Option.bind_some, m_mayUse (by omega), Option.bind_some, m_has (by omega) h3, Option.bind_some]
    simp (disch := omega) only [gst_eq, gwi_eq, R]
    by_cases e1 : p = x <;> by_cases e2 : rp r p 0 = 0 <;> by_cases e3 : gand (gshr (rp r p 5) v) 1 = 1 <;> by_cases e4 : qHasC r p c v = 0 <;> simp [e1, e2, e3, e4, qB] <;> simp_all
theorem a_help (hO : qOK r K) (hD : DR M (a + 1) r K) {p : Int} : fX8_helpers g a p M = some (sHelpers r p) := by
  have h1 := hO.2.1
  unfold fX8_helpers sHelpers
  rw [c_exP hO hD]
  by_cases h : 0 ≤ p ∧ p < r 1
  · have hOp := hO.p h
    have hP := hD.2.1 p h.1 h.2
    rw [if_pos h, if_pos h]
    show ((fX6_waitReason g (a + 1) (a + 1 + 1 + (8 + 4 * p.toNat)) M).bind fun x_5 => _) = _
    rw [c_waitReason hO hD h, Option.bind_some]
    unfold fX8_helpers_33
    by_cases e : qStuck r p = 0
    · rw [if_pos e, if_pos e]
    · have hin : rp r p 2 < rp r p 3 := by
        by_cases hin : rp r p 2 < rp r p 3
        · exact hin
        · exact absurd (if_neg (fun z => hin z.2.1)) e
      rw [if_neg e, if_neg e, hP.f.2.2.1, c_operandAt_in hP hOp.2.2.2.1.2 ⟨hOp.2.2.1.1, hin⟩, Option.bind_some, Option.bind_some]
      rw [show ∀ c : Int, fX8_helpers_51 g gF a p c (rp r p (42 + rp r p 2)) 0 0 M = some (.inr (qHelp r p c (rp r p (42 + rp r p 2)) (r 1).toNat 0 0)) from fun c => c_help_lp hO hD _ _ _ _ (by omega) (by omega) (by unfold gF; omega), show ∀ c : Int, fX8_helpers_51 g gF a p c (rp r p (42 + rp r p 2)) 0 0 M = some (.inr (qHelp r p c (rp r p (42 + rp r p 2)) (r 1).toNat 0 0)) from fun c => c_help_lp hO hD _ _ _ _ (by omega) (by omega) (by unfold gF; omega)]
      unfold qOpd
      split <;> rfl
  · rw [if_neg h, if_neg h]
    rfl
theorem b_help (hO : qOK r K) {p : Int} : fX9_helpers g a p (mrow M (a + 1) r) = some (qWert (sHelpers r p), mrow (gup M a 7 (qThr 3 (sHelpers r p))) (a + 1) r) := by
  have h1 := hO.2.1
  unfold fX9_helpers sHelpers
  rw [m_isP h1, Option.bind_some]
  unfold fX9_helpers_14
  by_cases h : 0 ≤ p ∧ p < r 1
  · have hOp := hO.p h
    have hsr := qStuck_rng (r := r) (p := p)
    rw [if_neg (by rw [qB_t h]; omega), if_pos h, gst_eq, mrow_a7, mrow_7, if_neg (by omega), m_stuck hO h, Option.bind_some]
    by_cases e : qStuck r p = 0
    · rw [if_pos e, if_pos e]; rfl
    · have hin : rp r p 2 < rp r p 3 := by
        by_cases hin : rp r p 2 < rp r p 3
        · exact hin
        · exact absurd (if_neg (fun z => hin z.2.1)) e
      have hpl := hOp.2.2.1
      have h24 := hOp.2.2.2.1
      unfold fX9_helpers_65
      rw [if_neg e, if_neg e, m_of (by omega) (by omega), Option.bind_some, gwi_eq (by omega) (by omega), m_of (by omega) (by omega), Option.bind_some, Option.bind_some]
      have H := fun c : Int => m_help_lp (g := g) (a := a) (M := gup M a 7 0) hO (x := p) (c := c) (v := rp r p (42 + rp r p 2)) (r 1).toNat 0 0 gF (by omega) (by omega) (by unfold gF; omega)
      rw [H, H]
      unfold qOpd
      by_cases e2 : qStuck r p = 2
      · rw [if_neg (by omega), if_pos e2]; rfl
      · rw [if_pos (by omega), if_neg e2]; rfl
  · rw [if_pos (qB_f h), if_neg h, gst_eq, mrow_a7, mrow_7, if_pos (by omega)]
    rfl
end Ask2
