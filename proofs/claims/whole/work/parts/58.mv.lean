/-! PURE: one stack goes elsewhere without being counted (hand, kill) -/
def qMv (r : gRow) (s p k : Int) : gRow := rss (rss r s 2 p) s 3 k
/-- what may be done: onto a slot that is empty, or into a hand that is -/
def qMvOK (r : gRow) (s p k : Int) : Prop := (0 ≤ s ∧ s < r 2) ∧ ((p = -1 ∧ (0 ≤ k ∧ k < r 0) ∧ qOnSlot r k = -1) ∨ (k = -1 ∧ (0 ≤ p ∧ p < r 1) ∧ qInHand r p = -1))
section Mv
variable {M M' : gMem} {d : Nat} {r : gRow} {K s p k : Int} {g : Nat → Nat}
theorem qMv_rs (hs : 0 ≤ s) (t j : Int) (ht : 0 ≤ t) (hj : 0 ≤ j ∧ j < 21) : rs (qMv r s p k) t j = if t = s ∧ j = 2 then p else if t = s ∧ j = 3 then k else rs r t j := by
  unfold qMv
  by_cases e3 : t = s ∧ j = 3
  · rw [if_neg (by omega), if_pos e3, e3.1, e3.2, rs_rss_eq]
  · by_cases e2 : t = s ∧ j = 2
    · rw [if_pos e2, e2.1, e2.2]
      simp (disch := omega) only [rs_rss_ne, rs_rss_eq]
    · rw [if_neg e2, if_neg e3]
      simp (disch := omega) only [rs_rss_ne]
theorem qMv_lo (hs : 0 ≤ s) (j : Nat) (hj : j < 694) : (qMv r s p k) j = r j := by
  unfold qMv
  simp (disch := omega) only [rss_lo]
theorem qMv_hi (hs : 0 ≤ s ∧ s < 12) (j : Nat) (hj : 946 ≤ j) : (qMv r s p k) j = r j := by
  unfold qMv
  simp (disch := omega) only [rss_hi]
theorem qHand_no (hO : qOK r K) {q : Int} (hq : 0 ≤ q) (h : qInHand r q = -1) (t : Int) (h1 : 0 ≤ t) (h2 : t < r 2) : ¬ rs r t 2 = q := by
  intro e
  have := qHand_one hO ⟨h1, h2⟩ hq e
  omega
theorem qSlot_no (hO : qOK r K) {q : Int} (hq : 0 ≤ q) (h : qOnSlot r q = -1) (t : Int) (h1 : 0 ≤ t) (h2 : t < r 2) : ¬ rs r t 3 = q := by
  intro e
  have := qSlot_one hO ⟨h1, h2⟩ hq e
  omega
theorem qOK_mv (hO : qOK r K) (h : qMvOK r s p k) : qOK (qMv r s p k) K := by
  obtain ⟨hs, hc⟩ := h
  have h2 := hO.2.2.1
  have R := fun t j ht hj => qMv_rs (r := r) (p := p) (k := k) hs.1 t j ht hj
  have L := fun j hj => qMv_lo (r := r) (p := p) (k := k) hs.1 j hj
  have N1 : 0 ≤ p → ∀ t : Int, 0 ≤ t → t < r 2 → ¬ rs r t 2 = p := fun q t q1 q2 => by
    rcases hc with c | c
    · omega
    · exact qHand_no hO q c.2.2 t q1 q2
  have N2 : 0 ≤ k → ∀ t : Int, 0 ≤ t → t < r 2 → ¬ rs r t 3 = k := fun q t q1 q2 => by
    rcases hc with c | c
    · exact qSlot_no hO q c.2.2 t q1 q2
    · omega
  have bp : -1 ≤ p ∧ p < r 1 := by have := hO.2.1; omega
  have bk : -1 ≤ k ∧ k < r 0 := by have := hO.1; omega
  have bi : p = -1 ↔ ¬ k = -1 := by omega
  have R2 : ∀ t : Int, 0 ≤ t → rs (qMv r s p k) t 2 = if t = s then p else rs r t 2 := fun t ht => by
    rw [R t 2 ht (by omega)]
    by_cases e : t = s
    · rw [if_pos ⟨e, rfl⟩, if_pos e]
    · rw [if_neg (fun z => e z.1), if_neg (fun z => e z.1), if_neg e]
  have R3 : ∀ t : Int, 0 ≤ t → rs (qMv r s p k) t 3 = if t = s then k else rs r t 3 := fun t ht => by
    rw [R t 3 ht (by omega)]
    by_cases e : t = s
    · rw [if_neg (by omega), if_pos ⟨e, rfl⟩, if_pos e]
    · rw [if_neg (fun z => e z.1), if_neg (fun z => e z.1), if_neg e]
  have Ro : ∀ t j : Int, 0 ≤ t → 0 ≤ j → j < 21 → ¬ j = 2 → ¬ j = 3 → rs (qMv r s p k) t j = rs r t j := fun t j ht h1 h2 n2 n3 => by
    rw [R t j ht ⟨h1, h2⟩, if_neg (fun z => n2 z.2), if_neg (fun z => n3 z.2)]
  refine hO.stacks (Int.le_refl K) L (fun t q1 q2 => ?_)
  obtain ⟨a0, a1, a2, a3, a4, a5, a6, a7⟩ := hO.2.2.2.2.2.2.2 t q1 q2
  unfold qOKs
  rw [L 0 (by omega), L 1 (by omega), L 2 (by omega), Ro t 0 q1 (by omega) (by omega) (by omega) (by omega), Ro t 1 q1 (by omega) (by omega) (by omega) (by omega), R2 t q1, R3 t q1, Ro t 4 q1 (by omega) (by omega) (by omega) (by omega)]
  refine ⟨a0, a1, ?_, ?_, ?_, a5, fun j q3 q4 => ?_, fun s' q3 q4 q5 => ?_⟩
  · split <;> omega
  · split <;> omega
  · split <;> omega
  · rw [Ro t _ q1 (by omega) (by omega) (by omega) (by omega)]; exact a6 j q3 q4
  · have a7' := a7 s' q3 q4 q5
    rw [R2 s' q3, R3 s' q3]
    by_cases e : t = s
    · have e' : ¬ s' = s := by omega
      rw [if_pos e, if_pos e, if_neg e', if_neg e']
      refine ⟨?_, ?_⟩
      · by_cases z : p = -1
        · exact Or.inl z
        · exact Or.inr (N1 (by omega) s' q3 q4)
      · by_cases z : k = -1
        · exact Or.inl z
        · exact Or.inr (N2 (by omega) s' q3 q4)
    · rw [if_neg e, if_neg e]
      by_cases e' : s' = s
      · rw [if_pos e', if_pos e']
        refine ⟨?_, ?_⟩
        · by_cases z : rs r t 2 = -1
          · exact Or.inl z
          · right
            intro w
            exact N1 (by omega) t q1 q2 w.symm
        · by_cases z : rs r t 3 = -1
          · exact Or.inl z
          · right
            intro w
            exact N2 (by omega) t q1 q2 w.symm
      · rw [if_neg e', if_neg e']; exact a7'
end Mv
