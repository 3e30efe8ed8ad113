/-! PURE: hands and slots after a stack went elsewhere -/
section Mv2
variable {M M' : gMem} {d : Nat} {r : gRow} {K s p k : Int} {g : Nat → Nat}
theorem qMv_2 (hs : 0 ≤ s) (t : Int) (ht : 0 ≤ t) : rs (qMv r s p k) t 2 = if t = s then p else rs r t 2 := by
  rw [qMv_rs hs t 2 ht (by omega)]
  by_cases e : t = s
  · rw [if_pos ⟨e, rfl⟩, if_pos e]
  · rw [if_neg (fun z => e z.1), if_neg (fun z => e z.1), if_neg e]
theorem qMv_3 (hs : 0 ≤ s) (t : Int) (ht : 0 ≤ t) : rs (qMv r s p k) t 3 = if t = s then k else rs r t 3 := by
  rw [qMv_rs hs t 3 ht (by omega)]
  by_cases e : t = s
  · rw [if_neg (by omega), if_pos ⟨e, rfl⟩, if_pos e]
  · rw [if_neg (fun z => e z.1), if_neg (fun z => e z.1), if_neg e]
theorem qMv_o (hs : 0 ≤ s) (t j : Int) (ht : 0 ≤ t) (hj : 0 ≤ j ∧ j < 21) (n2 : ¬ j = 2) (n3 : ¬ j = 3) : rs (qMv r s p k) t j = rs r t j := by
  rw [qMv_rs hs t j ht hj, if_neg (fun z => n2 z.2), if_neg (fun z => n3 z.2)]
theorem qMv_hand (hO : qOK r K) (h : qMvOK r s p k) {q : Int} (hq : 0 ≤ q ∧ q < r 1) : qInHand (qMv r s p k) q = if q = p then s else if rs r s 2 = q then -1 else qInHand r q := by
  have hN := qOK_mv hO h
  obtain ⟨hs, hc⟩ := h
  have h2 := hO.2.2.1
  have L2 : (qMv r s p k) 2 = r 2 := qMv_lo hs.1 2 (by omega)
  have one := fun t (ht : 0 ≤ t ∧ t < r 2) (e : rs (qMv r s p k) t 2 = q) => qHand_one hN (s := t) (p := q) (by rw [L2]; exact ht) hq.1 e
  by_cases e : q = p
  · rw [if_pos e]
    exact one s hs (by rw [qMv_2 hs.1 s hs.1, if_pos rfl, e])
  · rw [if_neg e]
    by_cases e2 : rs r s 2 = q
    · rw [if_pos e2]
      have hh := qHand_one hO hs hq.1 e2
      refine qHand_none (fun t q1 q2 => ?_)
      rw [L2] at q2
      rw [qMv_2 hs.1 t q1]
      by_cases e3 : t = s
      · rw [if_pos e3]; omega
      · rw [if_neg e3]
        intro w
        have := qHand_one hO ⟨q1, q2⟩ hq.1 w
        omega
    · rw [if_neg e2]
      rcases qHand_in h2.1 (r := r) q with w | w
      · rw [w]
        refine qHand_none (fun t q1 q2 => ?_)
        rw [L2] at q2
        rw [qMv_2 hs.1 t q1]
        by_cases e3 : t = s
        · rw [if_pos e3]; omega
        · rw [if_neg e3]; exact qHand_no hO hq.1 w t q1 q2
      · refine one _ w.1 ?_
        rw [qMv_2 hs.1 _ w.1.1, if_neg]
        · exact w.2
        · intro z; rw [z] at w; exact e2 w.2
theorem qMv_slot (hO : qOK r K) (h : qMvOK r s p k) {q : Int} (hq : 0 ≤ q ∧ q < r 0) : qOnSlot (qMv r s p k) q = if q = k then s else if rs r s 3 = q then -1 else qOnSlot r q := by
  have hN := qOK_mv hO h
  obtain ⟨hs, hc⟩ := h
  have h2 := hO.2.2.1
  have L2 : (qMv r s p k) 2 = r 2 := qMv_lo hs.1 2 (by omega)
  have one := fun t (ht : 0 ≤ t ∧ t < r 2) (e : rs (qMv r s p k) t 3 = q) => qSlot_one hN (s := t) (p := q) (by rw [L2]; exact ht) hq.1 e
  by_cases e : q = k
  · rw [if_pos e]
    exact one s hs (by rw [qMv_3 hs.1 s hs.1, if_pos rfl, e])
  · rw [if_neg e]
    by_cases e2 : rs r s 3 = q
    · rw [if_pos e2]
      have hh := qSlot_one hO hs hq.1 e2
      refine qSlot_none (fun t q1 q2 => ?_)
      rw [L2] at q2
      rw [qMv_3 hs.1 t q1]
      by_cases e3 : t = s
      · rw [if_pos e3]; omega
      · rw [if_neg e3]
        intro w
        have := qSlot_one hO ⟨q1, q2⟩ hq.1 w
        omega
    · rw [if_neg e2]
      rcases qSlot_in h2.1 (r := r) q with w | w
      · rw [w]
        refine qSlot_none (fun t q1 q2 => ?_)
        rw [L2] at q2
        rw [qMv_3 hs.1 t q1]
        by_cases e3 : t = s
        · rw [if_pos e3]; omega
        · rw [if_neg e3]; exact qSlot_no hO hq.1 w t q1 q2
      · refine one _ w.1 ?_
        rw [qMv_3 hs.1 _ w.1.1, if_neg]
        · exact w.2
        · intro z; rw [z] at w; exact e2 w.2
/-- the class's desk after such a move -/
theorem DR_mv (hO : qOK r K) (hD : DR M d r K) (h : qMvOK r s p k) (hm : ∀ x : Nat, (∀ q : Int, 0 ≤ q → q < r 1 → ¬ x = d + 1 + (8 + 4 * q.toNat)) → ¬ x = d + 3 → ¬ x = d + 2 + (39 + 2 * s.toNat) → M' x = M x)
    (hP : ∀ q : Int, 0 ≤ q → q < r 1 → M' (d + 1 + (8 + 4 * q.toNat)) 10 = qInHand (qMv r s p k) q ∧ ∀ j : Nat, ¬ j = 10 → M' (d + 1 + (8 + 4 * q.toNat)) j = M (d + 1 + (8 + 4 * q.toNat)) j)
    (hL : ∀ q : Int, 0 ≤ q → q < r 0 → M' (d + 3) q.toNat = qOnSlot (qMv r s p k) q)
    (hS : ∀ j : Nat, M' (d + 2 + (39 + 2 * s.toNat)) j = if j = 3 then p else if j = 4 then k else M (d + 2 + (39 + 2 * s.toNat)) j) : DR M' d (qMv r s p k) K := by
  have h1 := hO.2.1
  have h2 := hO.2.2.1
  have h5 := hO.2.2.2.2.2.1
  obtain ⟨A, B, C, D, E⟩ := hD
  obtain ⟨hs, hc⟩ := h
  have L := fun j hj => qMv_lo (r := r) (p := p) (k := k) hs.1 j hj
  refine ⟨A.congr (fun j hj => L j (by omega)) (hm d (fun q _ _ => by omega) (by omega) (by omega)), fun q q1 q2 => ?_, fun t q1 q2 => ?_, fun q q1 q2 => ?_, E.congr (L 5 (by omega)) h5.2 (fun j hj => qMv_hi (by omega) j (by omega)) (Int.le_refl _) (fun x q1 q2 => hm x (fun q _ _ => by omega) (by omega) (by omega))⟩
  · rw [L 1 (by omega)] at q2
    have hOp := hO.p ⟨q1, q2⟩
    exact (B q q1 q2).congr2 (fun k q3 q4 => L _ (by omega)) hOp.2.2.2.1.2 hOp.2.2.2.2.2.2.2.2.2.1.1 (hP q q1 q2).2 (hP q q1 q2).1 (hm _ (fun q _ _ => by omega) (by omega) (by omega)) (hm _ (fun q _ _ => by omega) (by omega) (by omega)) (hm _ (fun q _ _ => by omega) (by omega) (by omega))
  · rw [L 2 (by omega)] at q2
    have hl := hO.len q1 q2
    obtain ⟨a1, a2, a3, a4, a5, a6⟩ := C t q1 q2
    have m1 : M' (d + 2 + (39 + 2 * t.toNat) + 1) = M (d + 2 + (39 + 2 * t.toNat) + 1) := hm _ (fun q _ _ => by omega) (by omega) (by omega)
    unfold DRs
    rw [qMv_o hs.1 t 0 q1 (by omega) (by omega) (by omega), qMv_o hs.1 t 1 q1 (by omega) (by omega) (by omega), qMv_2 hs.1 t q1, qMv_3 hs.1 t q1, qMv_o hs.1 t 4 q1 (by omega) (by omega) (by omega), m1]
    have last : ∀ j : Int, 0 ≤ j → j < rs r t 1 → M (d + 2 + (39 + 2 * t.toNat) + 1) j.toNat = rs (qMv r s p k) t (5 + j) := fun j q3 q4 => by rw [qMv_o hs.1 t _ q1 (by omega) (by omega) (by omega)]; exact a6 j q3 q4
    by_cases e : t = s
    · rw [if_pos e, if_pos e]
      have hS' := hS
      rw [← e] at hS'
      refine ⟨?_, ?_, ?_, ?_, ?_, last⟩
      · rw [hS', if_neg (by omega), if_neg (by omega)]; exact a1
      · rw [hS', if_neg (by omega), if_neg (by omega)]; exact a2
      · rw [hS', if_pos rfl]
      · rw [hS', if_neg (by omega), if_pos rfl]
      · rw [hS', if_neg (by omega), if_neg (by omega)]; exact a5
    · rw [if_neg e, if_neg e, hm _ (fun q _ _ => by omega) (by omega) (by omega)]
      exact ⟨a1, a2, a3, a4, a5, last⟩
  · rw [L 0 (by omega)] at q2
    exact hL q q1 q2
end Mv2
