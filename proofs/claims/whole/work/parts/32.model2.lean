/-! PURE: faults, blocks, who is stuck -/
theorem mul_rng {x y : Int} (hx : -999999 ≤ x ∧ x ≤ 999999) (hy : -999999 ≤ y ∧ y ≤ 999999) : -999998000001 ≤ x * y ∧ x * y ≤ 999998000001 := by
  have h1 : (x * y).natAbs = x.natAbs * y.natAbs := Int.natAbs_mul x y
  have h2 : x.natAbs * y.natAbs ≤ 999999 * 999999 := Nat.mul_le_mul (by omega) (by omega)
  omega
section Model2
variable {g : Nat → Nat} {a : Nat} {M : gMem} {r : gRow}
/-- a stack that one may look at -/
def qSt (r : gRow) (h : Int) : Prop := (0 ≤ h ∧ h < 12) ∧ (0 ≤ rs r h 1 ∧ rs r h 1 ≤ 16) ∧ ∀ k : Int, 0 ≤ k → k < rs r h 1 → -999999 ≤ rs r h (5 + k) ∧ rs r h (5 + k) ≤ 999999
theorem qNum_rng {h d : Int} (hs : qSt r h) (hd : 0 ≤ d ∧ d < rs r h 1) : -999999 ≤ qNum r h d ∧ qNum r h d ≤ 999999 := by
  unfold qNum
  have := hs.2.2 (rs r h 1 - 1 - d) (by omega) (by omega)
  have e : 5 + (rs r h 1 - 1 - d) = 5 + rs r h 1 - 1 - d := by omega
  rwa [e] at this
theorem qRes_rng {h c : Int} (hs : qSt r h) (h2 : 2 ≤ rs r h 1) : -999998000001 ≤ qRes r h c ∧ qRes r h c ≤ 999998000001 := by
  have h0 := qNum_rng hs (d := 0) (by omega)
  have h1 := qNum_rng hs (d := 1) (by omega)
  have hm := mul_rng h1 h0
  unfold qRes
  split
  · omega
  · split
    · omega
    · exact hm
theorem m_res {h c : Int} (hs : qSt r h) (h2 : 2 ≤ rs r h 1) : fX9_resultOf g a h c (mrow M (a + 1) r) = some (qRes r h c) := by
  have h0 := qNum_rng hs (d := 0) (by omega)
  have h1 := qNum_rng hs (d := 1) (by omega)
  have hm := mul_rng h1 h0
  have hs1 := hs.1
  have hs2 := hs.2.1
  unfold fX9_resultOf qRes
  simp (disch := omega) only [m_num, Option.bind_some, gwl_eq]
  split
  · rfl
  · split <;> rfl
def qTail (r : gRow) (c h : Int) : Int :=
  if 0 < qNeed c ∧ rs r h 1 < qNeed c then 4 else if (c = 0 ∨ c = 2) ∧ rs r h 1 = rs r h 0 then 5 else if 4 ≤ c ∧ c ≤ 6 then (if qRes r h c < -999999 ∨ 999999 < qRes r h c then 6 else 0) else 0
def qFaultC (r : gRow) (p c v h : Int) : Int :=
  if (¬ c = 9 ∧ ¬ c = 11 ∧ ¬ c = 13) ∧ h = -1 then 1 else if (8 ≤ c ∧ c ≤ 10) ∧ ¬ gand (gshr (rp r p 5) v) 1 = 1 then 2 else if c = 9 ∧ ¬ h = -1 then 3 else qTail r c h
theorem glcmp_lt {x y : Int} : glcmp x y < 0 ↔ x < y := by unfold glcmp; split <;> (try split) <;> omega
theorem glcmp_le {x y : Int} : glcmp x y ≤ 0 ↔ x ≤ y := by unfold glcmp; split <;> (try split) <;> omega
theorem m_f150 {c h : Int} (hs : (4 ≤ c ∧ c ≤ 6) → qSt r h ∧ 2 ≤ rs r h 1) : fX9_faultOf_150 g a c h (mrow M (a + 1) r) = some (if 4 ≤ c ∧ c ≤ 6 then (if qRes r h c < -999999 ∨ 999999 < qRes r h c then 6 else 0) else 0) := by
  unfold fX9_faultOf_150
  simp only [m_isSum, Option.bind_some]
  by_cases hc : 4 ≤ c ∧ c ≤ 6
  · rw [if_neg (by rw [qB_t hc]; omega), m_res (hs hc).1 (hs hc).2]
    simp only [Option.bind_some, glcmp_lt, glcmp_le, if_pos hc]
    by_cases h1 : qRes r h c < -999999
    · rw [if_pos h1, if_pos (Or.inl h1)]
    · rw [if_neg h1]
      by_cases h2 : qRes r h c ≤ 999999
      · rw [if_pos h2, if_neg (by omega)]
      · rw [if_neg h2, if_pos (Or.inr (by omega))]
  · rw [if_pos (qB_f hc), if_neg hc]
theorem m_f124 {c h : Int} (hs : (4 ≤ c ∧ c ≤ 6) → qSt r h ∧ 2 ≤ rs r h 1) (h0 : c = 0 ∨ c = 2 → qSt r h) : fX9_faultOf_124 g a c h (mrow M (a + 1) r) = some (if (c = 0 ∨ c = 2) ∧ rs r h 1 = rs r h 0 then 5 else if 4 ≤ c ∧ c ≤ 6 then (if qRes r h c < -999999 ∨ 999999 < qRes r h c then 6 else 0) else 0) := by
  unfold fX9_faultOf_124 fX9_faultOf_133
  by_cases hc : c = 0 ∨ c = 2
  · have q := (h0 hc).1
    simp (disch := omega) only [m_ofS, Option.bind_some, m_f150 hs]
    by_cases he : rs r h 1 = rs r h 0
    · simp only [if_pos he, if_pos (show (c = 0 ∨ c = 2) ∧ rs r h 1 = rs r h 0 from ⟨hc, he⟩)]
      rcases hc with rfl | rfl <;> simp
    · simp only [if_neg he, if_neg (show ¬ ((c = 0 ∨ c = 2) ∧ rs r h 1 = rs r h 0) from fun z => he z.2)]
      rcases hc with rfl | rfl <;> simp
  · rw [if_neg (by omega), if_neg (by omega), m_f150 hs, if_neg (show ¬ ((c = 0 ∨ c = 2) ∧ rs r h 1 = rs r h 0) from fun z => hc z.1)]
theorem m_f102 {c h : Int} (hs : (4 ≤ c ∧ c ≤ 6) ∨ 0 < qNeed c ∨ c = 0 → qSt r h) : fX9_faultOf_102 g a c h (mrow M (a + 1) r) = some (qTail r c h) := by
  unfold fX9_faultOf_102 qTail
  simp only [m_needed, Option.bind_some]
  have hn : (4 ≤ c ∧ c ≤ 6) → qNeed c = 2 := fun q => by unfold qNeed; rw [if_neg (by omega), if_pos (by omega)]
  have hn2 : c = 2 → qNeed c = 1 := fun q => by unfold qNeed; rw [if_pos (by omega)]
  by_cases h0 : qNeed c ≤ 0
  · rw [if_pos h0, if_neg (by omega)]
    exact m_f124 (fun q => by have := hn q; omega) (fun q => hs (by rcases q with q | q; exact Or.inr (Or.inr q); have := hn2 q; omega))
  · have q := hs (Or.inr (Or.inl (by omega)))
    have q1 := q.1
    simp (disch := omega) only [if_neg h0, m_ofS, Option.bind_some]
    by_cases h1 : qNeed c ≤ rs r h 1
    · rw [if_pos h1, if_neg (by omega)]
      exact m_f124 (fun z => ⟨q, by have := hn z; omega⟩) (fun _ => q)
    · rw [if_neg h1, if_pos (by omega)]
theorem m_faultOf {p : Int} (h2 : 0 ≤ r 2 ∧ r 2 ≤ 12) (hp : 0 ≤ p ∧ p < 8) (hpl : 0 ≤ rp r p 2 ∧ rp r p 2 < 24) (hs : ¬ qInHand r p = -1 → qSt r (qInHand r p)) :
    fX9_faultOf g a p (mrow M (a + 1) r) = some (qFaultC r p (rp r p (18 + rp r p 2)) (rp r p (42 + rp r p 2)) (qInHand r p)) := by
  have hneed : ∀ c : Int, c = 9 ∨ c = 11 ∨ c = 13 → qNeed c = 0 := by intro c h; unfold qNeed; rw [if_neg (by omega), if_neg (by omega)]
  have h89 : ∀ c v : Int, ((¬ c = 9 ∧ ¬ c = 11 ∧ ¬ c = 13) → ¬ qInHand r p = -1) → fX9_faultOf_89 g a c (qInHand r p) (mrow M (a + 1) r) = some (if c = 9 ∧ ¬ qInHand r p = -1 then 3 else qTail r c (qInHand r p)) := by
    intro c v hh
    have h102 : (c = 9 ∧ ¬ qInHand r p = -1) ∨ fX9_faultOf_102 g a c (qInHand r p) (mrow M (a + 1) r) = some (qTail r c (qInHand r p)) := by
      by_cases hz : c = 9 ∧ ¬ qInHand r p = -1
      · exact Or.inl hz
      · refine Or.inr (m_f102 (fun q => hs (fun z => ?_)))
        have := hneed c
        have := hh
        omega
    unfold fX9_faultOf_89
    by_cases h9 : c = 9
    · rw [if_pos h9]
      by_cases hz : qInHand r p = -1
      · rw [if_pos hz, if_neg (fun q => q.2 hz)]
        rcases h102 with q | q
        · exact absurd hz q.2
        · exact q
      · rw [if_neg hz, if_pos ⟨h9, hz⟩]
    · rw [if_neg h9, if_neg (fun q => h9 q.1)]
      rcases h102 with q | q
      · exact absurd q.1 h9
      · exact q
  unfold fX9_faultOf
  simp (disch := omega) only [m_of, Option.bind_some, gwi_eq, m_inHand h2]
  have h58 : ∀ c : Int, c = rp r p (18 + rp r p 2) → ((¬ c = 9 ∧ ¬ c = 11 ∧ ¬ c = 13) → ¬ qInHand r p = -1) → fX9_faultOf_58 g a p c (qInHand r p) (mrow M (a + 1) r) = some (if (8 ≤ c ∧ c ≤ 10) ∧ ¬ gand (gshr (rp r p 5) (rp r p (42 + rp r p 2))) 1 = 1 then 2 else if c = 9 ∧ ¬ qInHand r p = -1 then 3 else qTail r c (qInHand r p)) := by
    intro c hc hh
    unfold fX9_faultOf_58
    simp (disch := omega) only [m_isOfSlot, m_of, m_mayUse, Option.bind_some, gwi_eq]
    by_cases h8 : 8 ≤ c ∧ c ≤ 10
    · rw [if_neg (by rw [qB_t h8]; omega)]
      by_cases hm : gand (gshr (rp r p 5) (rp r p (42 + rp r p 2))) 1 = 1
      · rw [if_pos hm, if_neg (by omega), if_neg (fun q => q.2 hm)]
        exact h89 c 0 hh
      · rw [if_neg hm, if_pos rfl, if_pos ⟨h8, hm⟩]
    · rw [if_pos (qB_f h8), if_neg (fun q => h8 q.1)]
      exact h89 c 0 hh
  generalize hcc : rp r p (18 + rp r p 2) = c at h58 ⊢
  unfold qFaultC fX9_faultOf_43 fX9_faultOf_44
  by_cases hn : ¬ c = 9 ∧ ¬ c = 11 ∧ ¬ c = 13
  · rw [if_neg hn.1, if_neg hn.2.1, if_neg hn.2.2, if_neg (show ¬ (1 : Int) = 0 by omega)]
    by_cases hz : qInHand r p = -1
    · rw [if_pos hz, if_pos ⟨hn, hz⟩]
    · rw [if_neg hz, if_neg (fun q => hz q.2)]
      exact h58 c rfl (fun _ => hz)
  · rw [if_neg (show ¬ ((¬ c = 9 ∧ ¬ c = 11 ∧ ¬ c = 13) ∧ qInHand r p = -1) from fun q => hn q.1)]
    have e := h58 c rfl (fun q => absurd q hn)
    simp only [if_pos]
    by_cases h9 : c = 9
    · rw [if_pos h9]; exact e
    · rw [if_neg h9]
      by_cases h11 : c = 11
      · rw [if_pos h11]; exact e
      · rw [if_neg h11, if_pos (by omega)]; exact e
def qBlockC (r : gRow) (c v : Int) : Int := if 8 ≤ c ∧ c ≤ 10 then (if c = 8 then (if qOnSlot r v = -1 then 0 else 1) else (if qOnSlot r v = -1 then 2 else 0)) else 0
theorem m_blockOf {p : Int} (h2 : 0 ≤ r 2 ∧ r 2 ≤ 12) (hp : 0 ≤ p ∧ p < 8) (hpl : 0 ≤ rp r p 2 ∧ rp r p 2 < 24) : fX9_blockOf g a p (mrow M (a + 1) r) = some (qBlockC r (rp r p (18 + rp r p 2)) (rp r p (42 + rp r p 2))) := by
  unfold fX9_blockOf qBlockC fX9_blockOf_51
  simp (disch := omega) only [m_isOfSlot, m_of, m_onSlot h2, Option.bind_some, gwi_eq]
  by_cases h8 : 8 ≤ rp r p (18 + rp r p 2) ∧ rp r p (18 + rp r p 2) ≤ 10
  · rw [if_neg (by rw [qB_t h8]; omega), if_pos h8]
    by_cases hq : qOnSlot r (rp r p (42 + rp r p 2)) = -1
    · simp only [if_pos hq, if_pos]
      split <;> rfl
    · simp only [if_neg hq, if_neg (show ¬ (1 : Int) = 0 by omega)]
      split <;> rfl
  · rw [if_pos (qB_f h8), if_neg h8]
/-- fault and block of the next command; 0 if there is none -/
def qFault (r : gRow) (p : Int) : Int := qFaultC r p (rp r p (18 + rp r p 2)) (rp r p (42 + rp r p 2)) (qInHand r p)
def qBlock (r : gRow) (p : Int) : Int := qBlockC r (rp r p (18 + rp r p 2)) (rp r p (42 + rp r p 2))
def qStuck (r : gRow) (p : Int) : Int := if rp r p 0 = 0 ∧ rp r p 2 < rp r p 3 ∧ qFault r p ≤ 0 then qBlock r p else 0
theorem m_stuckBy {p : Int} (h2 : 0 ≤ r 2 ∧ r 2 ≤ 12) (hp : 0 ≤ p ∧ p < 8) (hpl : 0 ≤ rp r p 2) (hc : rp r p 3 ≤ 24) (hs : ¬ qInHand r p = -1 → qSt r (qInHand r p)) : fX9_stuckBy g a p (mrow M (a + 1) r) = some (qStuck r p) := by
  unfold fX9_stuckBy qStuck
  simp (disch := omega) only [m_isReady, m_of, Option.bind_some]
  by_cases h0 : rp r p 0 = 0
  · rw [if_neg (by rw [qB_t h0]; omega)]
    by_cases h1 : rp r p 3 ≤ rp r p 2
    · rw [if_pos h1, if_neg (by omega)]
    · rw [if_neg h1, m_faultOf h2 hp (by omega) hs]
      simp only [Option.bind_some]
      by_cases h3 : qFault r p ≤ 0
      · rw [if_pos (show qFaultC r p (rp r p (18 + rp r p 2)) (rp r p (42 + rp r p 2)) (qInHand r p) ≤ 0 from h3), if_pos ⟨h0, by omega, h3⟩, m_blockOf h2 hp (by omega)]
        rfl
      · rw [if_neg (show ¬ qFaultC r p (rp r p (18 + rp r p 2)) (rp r p (42 + rp r p 2)) (qInHand r p) ≤ 0 from h3), if_neg (fun q => h3 q.2.2)]
  · rw [if_pos (qB_f h0), if_neg (fun q => h0 q.1)]
end Model2
