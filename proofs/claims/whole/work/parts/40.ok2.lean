/-! PURE: exchange, saying, tracing: bounds -/
section OK2
variable {r r' : gRow} {K K' : Int}
theorem qHand_one (hO : qOK r K) {s p : Int} (hs : 0 ≤ s ∧ s < r 2) (hp : 0 ≤ p) (h : rs r s 2 = p) : qInHand r p = s := by
  unfold qInHand
  refine qFind_one hs.1 (by omega) (by simpa using h) (fun j q1 q2 q3 => ?_)
  have := ((hO.2.2.2.2.2.2.2 s hs.1 hs.2).2.2.2.2.2.2.2 j q1 (by omega) q3).1
  have hne : ¬ rs r j 2 = p := by
    intro e
    rcases this with q | q
    · omega
    · exact q (by omega)
  simpa using hne
theorem qSlot_one (hO : qOK r K) {s p : Int} (hs : 0 ≤ s ∧ s < r 2) (hp : 0 ≤ p) (h : rs r s 3 = p) : qOnSlot r p = s := by
  unfold qOnSlot
  refine qFind_one hs.1 (by omega) (by simpa using h) (fun j q1 q2 q3 => ?_)
  have := ((hO.2.2.2.2.2.2.2 s hs.1 hs.2).2.2.2.2.2.2.2 j q1 (by omega) q3).2
  have hne : ¬ rs r j 3 = p := by
    intro e
    rcases this with q | q
    · omega
    · exact q (by omega)
  simpa using hne
theorem qHand_none {p : Int} (h : ∀ s : Int, 0 ≤ s → s < r 2 → ¬ rs r s 2 = p) : qInHand r p = -1 := by
  unfold qInHand
  exact qFind_none (fun j q1 q2 => by simpa using h j q1 (by omega))
theorem qSlot_none {p : Int} (h : ∀ s : Int, 0 ≤ s → s < r 2 → ¬ rs r s 3 = p) : qOnSlot r p = -1 := by
  unfold qOnSlot
  exact qFind_none (fun j q1 q2 => by simpa using h j q1 (by omega))
theorem qEx_lo {p h k : Int} (h2 : 0 ≤ r 2) (hh : h = -1 ∨ 0 ≤ h) (j : Nat) (hj : j < 694) : (qEx r p h k) j = r j := by
  have ho := qSlot_in h2 (r := r) k
  unfold qEx qEx1
  split
  · split
    · rfl
    · exact qGo_lo (by omega) j hj
  · rw [qGo_lo (by omega) j hj]
    split
    · rfl
    · exact qGo_lo (by omega) j hj
theorem qEx_hi {p h k : Int} (h2 : 0 ≤ r 2 ∧ r 2 ≤ 12) (hh : h = -1 ∨ (0 ≤ h ∧ h < r 2)) (j : Nat) (hj : 946 ≤ j) : (qEx r p h k) j = r j := by
  have ho := qSlot_in h2.1 (r := r) k
  unfold qEx qEx1
  split
  · split
    · rfl
    · exact qGo_hi (by omega) j hj
  · rw [qGo_hi (by omega) j hj]
    split
    · rfl
    · exact qGo_hi (by omega) j hj
theorem qEx_facts (hO : qOK r K) {p k : Int} (hp : 0 ≤ p ∧ p < r 1) (hk : 0 ≤ k ∧ k < r 0) :
    (qInHand r p = -1 ∨ (0 ≤ qInHand r p ∧ qInHand r p < r 2) ∧ rs r (qInHand r p) 2 = p ∧ rs r (qInHand r p) 3 = -1) ∧
    (qOnSlot r k = -1 ∨ (0 ≤ qOnSlot r k ∧ qOnSlot r k < r 2) ∧ rs r (qOnSlot r k) 3 = k ∧ rs r (qOnSlot r k) 2 = -1) ∧
    (qOnSlot r k = -1 ∨ ¬ qInHand r p = qOnSlot r k) := by
  have h2 := hO.2.2.1
  have hh := qHand_in h2.1 (r := r) p
  have ho := qSlot_in h2.1 (r := r) k
  have A : qInHand r p = -1 ∨ (0 ≤ qInHand r p ∧ qInHand r p < r 2) ∧ rs r (qInHand r p) 2 = p ∧ rs r (qInHand r p) 3 = -1 := by
    rcases hh with q | q
    · exact Or.inl q
    · have := (hO.2.2.2.2.2.2.2 _ q.1.1 q.1.2).2.2.2.2.1
      refine Or.inr ⟨q.1, q.2, ?_⟩
      omega
  have B : qOnSlot r k = -1 ∨ (0 ≤ qOnSlot r k ∧ qOnSlot r k < r 2) ∧ rs r (qOnSlot r k) 3 = k ∧ rs r (qOnSlot r k) 2 = -1 := by
    rcases ho with q | q
    · exact Or.inl q
    · have := (hO.2.2.2.2.2.2.2 _ q.1.1 q.1.2).2.2.2.2.1
      refine Or.inr ⟨q.1, q.2, ?_⟩
      omega
  refine ⟨A, B, ?_⟩
  rcases B with q | q
  · exact Or.inl q
  · refine Or.inr (fun e => ?_)
    rcases A with q' | q'
    · omega
    · rw [e] at q'; omega
theorem qOK_ex (hO : qOK r K) {p k : Int} (hp : 0 ≤ p ∧ p < r 1) (hk : 0 ≤ k ∧ k < r 0) : qOK (qEx r p (qInHand r p) k) (K + 1) := by
  have h2 := hO.2.2.1
  obtain ⟨A, B, D⟩ := qEx_facts hO hp hk
  have S1 : ∀ s : Int, 0 ≤ s → s < r 2 → rs r s 2 = p → qInHand r p = s := fun s q1 q2 q3 => qHand_one hO ⟨q1, q2⟩ hp.1 q3
  have S2 : ∀ s : Int, 0 ≤ s → s < r 2 → rs r s 3 = k → qOnSlot r k = s := fun s q1 q2 q3 => qSlot_one hO ⟨q1, q2⟩ hk.1 q3
  have R := fun t j (ht : 0 ≤ t) (hj : 0 ≤ j ∧ j < 21) => qEx_rs (r := r) (p := p) (h := qInHand r p) (k := k) h2.1 (by omega) D t j ht hj
  have L := fun j hj => qEx_lo (r := r) (p := p) (h := qInHand r p) (k := k) h2.1 (by omega) j hj
  refine hO.stacks (by omega) L (fun t q1 q2 => ?_)
  generalize qEx r p (qInHand r p) k = r' at R L ⊢
  generalize qInHand r p = h at A D S1 R
  generalize qOnSlot r k = o at B D S2 R
  obtain ⟨a0, a1, a2, a3, a4, a5, a6, a7⟩ := hO.2.2.2.2.2.2.2 t q1 q2
  unfold qOKs
  rw [L 0 (by omega), L 1 (by omega), L 2 (by omega), R t 0 q1 (by omega), R t 1 q1 (by omega), R t 2 q1 (by omega), R t 3 q1 (by omega), R t 4 q1 (by omega)]
  have N : ∀ j : Int, 0 ≤ j → j < 21 → ¬ j = 2 → ¬ j = 3 → ¬ j = 4 → rs r' t j = rs r t j := by
    intro j q3 q4 n2 n3 n4
    rw [R t j q1 ⟨q3, q4⟩]
    simp [n2, n3, n4]
  have N0 := N 0 (by omega) (by omega) (by omega) (by omega) (by omega)
  have N1 := N 1 (by omega) (by omega) (by omega) (by omega) (by omega)
  rw [R t 0 q1 (by omega)] at N0
  rw [R t 1 q1 (by omega)] at N1
  rw [N0, N1]
  refine ⟨a0, a1, ?_, ?_, ?_, ?_, fun j q3 q4 => ?_, fun s' q3 q4 q5 => ?_⟩
  · by_cases e1 : t = h <;> by_cases e2 : t = o <;> simp [e1, e2] <;> omega
  · by_cases e1 : t = h <;> by_cases e2 : t = o <;> simp [e1, e2] <;> omega
  · by_cases e1 : t = h
    · simp [e1]; omega
    · by_cases e2 : t = o
      · simp [e2, show ¬ o = h by omega]; omega
      · simp [e1, e2]; omega
  · by_cases e1 : t = h
    · simp [e1]; rw [← e1]; omega
    · by_cases e2 : t = o
      · simp [e2, show ¬ o = h by omega]; rw [← e2]; omega
      · simp [e1, e2]; omega
  · rw [N _ (by omega) (by omega) (by omega) (by omega) (by omega)]; exact a6 j q3 q4
  · rw [R s' 2 q3 (by omega), R s' 3 q3 (by omega)]
    have a7' := a7 s' q3 q4 q5
    have S1' := S1 s' q3 q4
    have S2' := S2 s' q3 q4
    have S1t := S1 t q1 q2
    have S2t := S2 t q1 q2
    by_cases e1 : t = h
    · have n1 : ¬ s' = h := by omega
      by_cases e2 : s' = o
      · simp [e1, n1, e2]; omega
      · simp [e1, n1, e2]; omega
    · by_cases e2 : t = o
      · have n1 : ¬ s' = o := by omega
        have n2 : ¬ o = h := by omega
        by_cases e3 : s' = h
        · simp [e2, n1, n2, e3]; omega
        · simp [e2, n1, n2, e3]; omega
      · by_cases e3 : s' = h
        · have n2 : ¬ h = o := by omega
          simp [e1, e2, e3]; omega
        · by_cases e4 : s' = o
          · simp [e1, e2, e3, e4, show ¬ o = h by omega]; omega
          · simp [e1, e2, e3, e4]; omega
theorem qEx_hand (hO : qOK r K) {p k : Int} (hp : 0 ≤ p ∧ p < r 1) (hk : 0 ≤ k ∧ k < r 0) {q : Int} (hq : 0 ≤ q ∧ q < r 1) : qInHand (qEx r p (qInHand r p) k) q = if q = p then qOnSlot r k else qInHand r q := by
  have h2 := hO.2.2.1
  obtain ⟨A, B, D⟩ := qEx_facts hO hp hk
  have hN := qOK_ex hO hp hk
  have S1 : ∀ s q : Int, 0 ≤ q → 0 ≤ s → s < r 2 → rs r s 2 = q → qInHand r q = s := fun s q q0 q1 q2 q3 => qHand_one hO ⟨q1, q2⟩ q0 q3
  have R := fun t (ht : 0 ≤ t) => qEx_rs (r := r) (p := p) (h := qInHand r p) (k := k) h2.1 (by omega) D t 2 ht (by omega)
  have L := qEx_lo (r := r) (p := p) (h := qInHand r p) (k := k) h2.1 (by omega) 2 (by omega)
  have hQ := qHand_in h2.1 (r := r) q
  have one := fun s (hs : 0 ≤ s ∧ s < r 2) (e : rs (qEx r p (qInHand r p) k) s 2 = q) => qHand_one hN (s := s) (p := q) (by rw [L]; exact hs) hq.1 e
  have none := fun e => qHand_none (r := qEx r p (qInHand r p) k) (p := q) e
  rw [L] at none
  by_cases e : q = p
  · rw [if_pos e]
    rcases B with o1 | o1
    · rw [o1]
      refine none (fun s q1 q2 => ?_)
      rw [R s q1]
      have := S1 s p hp.1 q1 q2
      by_cases e1 : s = qInHand r p
      · rw [if_pos e1, if_pos rfl]; omega
      · rw [if_neg e1, if_neg (by omega)]; omega
    · refine one _ o1.1 ?_
      rw [R _ o1.1.1, if_neg (by omega), if_pos rfl, if_pos rfl, e]
  · rw [if_neg e]
    have hne : ∀ s : Int, 0 ≤ s → s < r 2 → ¬ rs r s 2 = q → ¬ rs (qEx r p (qInHand r p) k) s 2 = q := by
      intro s q1 q2 q3
      rw [R s q1]
      by_cases e1 : s = qInHand r p
      · rw [if_pos e1, if_pos rfl]; omega
      · rw [if_neg e1]
        by_cases e2 : s = qOnSlot r k
        · rw [if_pos e2, if_pos rfl]; omega
        · rw [if_neg e2]; exact q3
    rcases hQ with q' | q'
    · rw [q']
      refine none (fun s q1 q2 => hne s q1 q2 (fun e3 => ?_))
      have := S1 s q hq.1 q1 q2 e3
      omega
    · refine one _ q'.1 ?_
      rw [R _ q'.1.1, if_neg, if_neg]
      · exact q'.2
      · intro e3; rw [e3] at q'; omega
      · intro e3; rw [e3] at q'; omega
theorem qEx_slot (hO : qOK r K) {p k : Int} (hp : 0 ≤ p ∧ p < r 1) (hk : 0 ≤ k ∧ k < r 0) {q : Int} (hq : 0 ≤ q ∧ q < r 0) : qOnSlot (qEx r p (qInHand r p) k) q = if q = k then qInHand r p else qOnSlot r q := by
  have h2 := hO.2.2.1
  obtain ⟨A, B, D⟩ := qEx_facts hO hp hk
  have hN := qOK_ex hO hp hk
  have S1 : ∀ s q : Int, 0 ≤ q → 0 ≤ s → s < r 2 → rs r s 3 = q → qOnSlot r q = s := fun s q q0 q1 q2 q3 => qSlot_one hO ⟨q1, q2⟩ q0 q3
  have R := fun t (ht : 0 ≤ t) => qEx_rs (r := r) (p := p) (h := qInHand r p) (k := k) h2.1 (by omega) D t 3 ht (by omega)
  have L := qEx_lo (r := r) (p := p) (h := qInHand r p) (k := k) h2.1 (by omega) 2 (by omega)
  have hQ := qSlot_in h2.1 (r := r) q
  have one := fun s (hs : 0 ≤ s ∧ s < r 2) (e : rs (qEx r p (qInHand r p) k) s 3 = q) => qSlot_one hN (s := s) (p := q) (by rw [L]; exact hs) hq.1 e
  have none := fun e => qSlot_none (r := qEx r p (qInHand r p) k) (p := q) e
  rw [L] at none
  by_cases e : q = k
  · rw [if_pos e]
    rcases A with o1 | o1
    · refine (none (fun s q1 q2 => ?_)).trans o1.symm
      rw [R s q1, if_neg (by omega)]
      have := S1 s k hk.1 q1 q2
      by_cases e1 : s = qOnSlot r k
      · rw [if_pos e1, if_neg (by omega), if_pos rfl]; omega
      · rw [if_neg e1]; omega
    · refine one _ o1.1 ?_
      rw [R _ o1.1.1, if_pos rfl, if_neg (by omega), if_pos rfl, e]
  · rw [if_neg e]
    have hne : ∀ s : Int, 0 ≤ s → s < r 2 → ¬ rs r s 3 = q → ¬ rs (qEx r p (qInHand r p) k) s 3 = q := by
      intro s q1 q2 q3
      rw [R s q1]
      by_cases e1 : s = qInHand r p
      · rw [if_pos e1, if_neg (by omega), if_pos rfl]; omega
      · rw [if_neg e1]
        by_cases e2 : s = qOnSlot r k
        · rw [if_pos e2, if_neg (by omega), if_pos rfl]; omega
        · rw [if_neg e2]; exact q3
    rcases hQ with q' | q'
    · rw [q']
      refine none (fun s q1 q2 => hne s q1 q2 (fun e3 => ?_))
      have := S1 s q hq.1 q1 q2 e3
      omega
    · refine one _ q'.1 ?_
      rw [R _ q'.1.1, if_neg, if_neg]
      · exact q'.2
      · intro e3; rw [e3] at q'; omega
      · intro e3; rw [e3] at q'; omega
theorem qSay_rp {p v : Int} (hp : 0 ≤ p) (q k : Int) (hq : 0 ≤ q) (hk : 0 ≤ k ∧ k < 86) : rp (qSay r p v) q k = if q = p ∧ k = 9 then rp r p 9 + 1 else if q = p ∧ k = 66 then v else if q = p ∧ 67 ≤ k then rp r p (k - 1) else rp r q k := by
  have S := qSh_rp hp 19 r (by omega)
  unfold qSay qSay2 qSay1
  by_cases e9 : q = p ∧ k = 9
  · rw [if_pos e9, e9.1, e9.2, rp_rsp_eq]
    simp (disch := omega) only [rp_rsp_ne]
    rw [S p 9 hp (by omega) (by omega), if_neg (by omega)]
  · rw [if_neg e9]
    by_cases e66 : q = p ∧ k = 66
    · rw [if_pos e66, e66.1, e66.2]
      simp (disch := omega) only [rp_rsp_ne, rp_rsp_eq]
    · rw [if_neg e66]
      simp (disch := omega) only [rp_rsp_ne]
      rw [S q k hq (by omega) (by omega)]
      by_cases e : q = p ∧ 67 ≤ k
      · rw [if_pos (by omega), if_pos e]
      · rw [if_neg (by omega), if_neg e]
theorem qSay_off {p v : Int} (hp : 0 ≤ p ∧ p < 8) (j : Nat) (hj : j < 6 ∨ 694 ≤ j) : (qSay r p v) j = r j := by
  unfold qSay qSay2 qSay1
  have := qSh_off hp.1 19 r (by omega) j (by omega)
  rw [show (rsp (rsp (qSh p 19 r) p 66 v) p 9 (rp (rsp (qSh p 19 r) p 66 v) p 9 + 1)) j = (rsp (qSh p 19 r) p 66 v) j from rup_miss (by omega), show (rsp (qSh p 19 r) p 66 v) j = qSh p 19 r j from rup_miss (by omega)]
  exact this
theorem qOK_say {p v : Int} (hO : qOK r K) (hp : 0 ≤ p ∧ p < r 1) : qOK (qSay r p v) (K + 1) := by
  have h1 := hO.2.1
  have h2 := hO.2.2.1
  refine hO.procs (by omega) (fun j hj => qSay_off (by omega) j (by omega)) (fun s k q1 q2 q3 q4 => qSay_off (by omega) _ (by omega)) (fun q q1 q2 => ?_)
  have h0 := hO.2.2.2.2.2.2.1 q q1 q2
  by_cases e : q = p
  · have key := fun k hk => qSay_rp (r := r) (v := v) hp.1 q k q1 hk
    unfold qOKp at h0 ⊢
    obtain ⟨a0, a1, a2, a3, a4, a5, a6, a7, a8, a9, a10⟩ := h0
    have e0 : (qSay r p v) 0 = r 0 := qSay_off (by omega) 0 (by omega)
    have e3 : rp (qSay r p v) q 3 = rp r q 3 := by rw [key 3 (by omega), if_neg (by omega), if_neg (by omega), if_neg (by omega)]
    rw [e0, e3]
    refine ⟨?_, ?_, ?_, a3, ?_, ?_, ?_, ?_, ?_, ?_, fun k' q1 q2 => ?_⟩
    · rw [key 0 (by omega), if_neg (by omega), if_neg (by omega), if_neg (by omega)]; omega
    · rw [key 1 (by omega), if_neg (by omega), if_neg (by omega), if_neg (by omega)]; omega
    · rw [key 2 (by omega), if_neg (by omega), if_neg (by omega), if_neg (by omega)]; omega
    · rw [key 4 (by omega), if_neg (by omega), if_neg (by omega), if_neg (by omega)]; omega
    · rw [key 5 (by omega), if_neg (by omega), if_neg (by omega), if_neg (by omega)]; omega
    · rw [key 6 (by omega), if_neg (by omega), if_neg (by omega), if_neg (by omega)]; omega
    · rw [key 7 (by omega), if_neg (by omega), if_neg (by omega), if_neg (by omega)]; omega
    · rw [key 8 (by omega), if_neg (by omega), if_neg (by omega), if_neg (by omega)]; omega
    · rw [key 9 (by omega), if_pos (by omega), ← e]; omega
    · rw [key _ (by omega), if_neg (by omega), if_neg (by omega), if_neg (by omega), key _ (by omega), if_neg (by omega), if_neg (by omega), if_neg (by omega)]
      exact a10 k' q1 q2
  · exact h0.congr (by omega) (qSay_off (by omega) 0 (by omega)) (fun k q3 q4 => by rw [qSay_rp hp.1 q k q1 (by omega), if_neg (by omega), if_neg (by omega), if_neg (by omega)])
theorem qTr_off {p x y : Int} (h5 : 0 ≤ r 5 ∧ r 5 ≤ 40) (j : Nat) (hj : ¬ j = 5) (hj2 : j < 1030) : (qTr r p x y) j = r j := by
  have T1 : ∀ r : gRow, 0 ≤ r 5 → (qTr1 r p x y) j = r j := by
    intro r h5
    unfold qTr1
    rw [rup_miss (by omega), rup_miss (by omega), rup_miss (by omega), rup_miss (by omega), rup_miss (by omega)]
  unfold qTr
  have e5 : qTS 156 1030 r 5 = r 5 := by rw [qTS_at _ _ _ (by omega), if_neg (by omega)]
  by_cases h : r 5 = 40
  · rw [if_pos h, T1 (qTr0 r) (by unfold qTr0; rw [rup_hit (by rfl), e5]; omega)]
    unfold qTr0
    rw [rup_miss (by omega), qTS_at _ _ _ (by omega), if_neg (by omega)]
  · rw [if_neg h, T1 r h5.1]
theorem qTr_5 {p x y : Int} (h5 : 0 ≤ r 5 ∧ r 5 ≤ 40) : (qTr r p x y) 5 = if r 5 = 40 then 40 else r 5 + 1 := by
  unfold qTr
  have e5 : qTS 156 1030 r 5 = r 5 := by rw [qTS_at _ _ _ (by omega), if_neg (by omega)]
  by_cases h : r 5 = 40
  · have e0 : qTr0 r 5 = 39 := by unfold qTr0; rw [rup_hit (by rfl), e5]; omega
    rw [if_pos h, if_pos h]
    unfold qTr1
    rw [rup_hit (by rfl), e0]; rfl
  · rw [if_neg h, if_neg h]
    unfold qTr1
    rw [rup_hit (by rfl)]
/-- what lies at place z of entry i of the trace afterwards -/
theorem qTr_at {p x y : Int} (h5 : 0 ≤ r 5 ∧ r 5 ≤ 40) (i z : Int) (hi : 0 ≤ i ∧ i < (if r 5 = 40 then 40 else r 5 + 1)) (hz : 0 ≤ z ∧ z ≤ 3) : (qTr r p x y) (1030 + 4 * i + z).toNat = if i = (if r 5 = 40 then 40 else r 5 + 1) - 1 then (if z = 0 then r 3 else if z = 1 then p else if z = 2 then x else y) else r (1030 + 4 * (if r 5 = 40 then i + 1 else i) + z).toNat := by
  have T1 : ∀ r : gRow, 0 ≤ r 5 → i ≤ r 5 → (qTr1 r p x y) (1030 + 4 * i + z).toNat = if i = r 5 then (if z = 0 then r 3 else if z = 1 then p else if z = 2 then x else y) else r (1030 + 4 * i + z).toNat := by
    intro r h5 h5'
    unfold qTr1
    rw [rup_miss (by omega)]
    by_cases hi5 : i = r 5
    · rw [if_pos hi5, hi5]
      have hz' : z = 0 ∨ z = 1 ∨ z = 2 ∨ z = 3 := by omega
      rcases hz' with rfl | rfl | rfl | rfl
      · rw [rup_miss (by omega), rup_miss (by omega), rup_miss (by omega), rup_hit (by omega)]; rfl
      · rw [rup_miss (by omega), rup_miss (by omega), rup_hit (by omega)]; rfl
      · rw [rup_miss (by omega), rup_hit (by omega)]; rfl
      · rw [rup_hit (by omega)]; rfl
    · rw [if_neg hi5, rup_miss (by omega), rup_miss (by omega), rup_miss (by omega), rup_miss (by omega)]
  unfold qTr
  have e5 : qTS 156 1030 r 5 = r 5 := by rw [qTS_at _ _ _ (by omega), if_neg (by omega)]
  by_cases h : r 5 = 40
  · have e0 : qTr0 r 5 = 39 := by unfold qTr0; rw [rup_hit (by rfl), e5]; omega
    have e3 : qTr0 r 3 = r 3 := by unfold qTr0; rw [rup_miss (by omega), qTS_at _ _ _ (by omega), if_neg (by omega)]
    rw [if_pos h] at hi
    rw [if_pos h, if_pos h, if_pos h, T1 (qTr0 r) (by omega) (by omega), e0, e3]
    by_cases h' : i = 39
    · rw [if_pos h', if_pos (show i = 40 - 1 by omega)]
    · rw [if_neg h', if_neg (by omega)]
      unfold qTr0
      rw [rup_miss (by omega), qTS_at _ _ _ (by omega), if_pos (by omega)]
      rw [show (1030 + 4 * i + z).toNat + 4 = (1030 + 4 * (i + 1) + z).toNat by omega]
  · rw [if_neg h] at hi
    rw [if_neg h, if_neg h, if_neg h, T1 r h5.1 (by omega)]
    by_cases h' : i = r 5
    · rw [if_pos h', if_pos (show i = r 5 + 1 - 1 by omega)]
    · rw [if_neg h', if_neg (by omega)]
theorem qOK_tr {p x y : Int} (hO : qOK r K) : qOK (qTr r p x y) K := by
  have h5 := hO.2.2.2.2.2.1
  have T := fun j hj hj2 => qTr_off (r := r) (p := p) (x := x) (y := y) h5 j hj hj2
  have T5 := qTr_5 (r := r) (p := p) (x := x) (y := y) h5
  refine hO.tr (Int.le_refl K) (T 0 (by omega) (by omega)) (T 1 (by omega) (by omega)) (T 2 (by omega) (by omega)) (by rw [T 3 (by omega) (by omega)]; exact hO.2.2.2.1) (by rw [T 4 (by omega) (by omega)]; exact hO.2.2.2.2.1) (by rw [T5]; split <;> omega) (fun j q1 q2 => T j (by omega) (by omega))
end OK2
