/-! PURE: the class's exchange -/
theorem gup_at {M : gMem} {a k j : Nat} {v : Int} : gup M a k v a j = if j = k then v else M a j := by
  unfold gup
  by_cases h : j = k
  · rw [if_pos ⟨rfl, h⟩, if_pos h]
  · rw [if_neg (fun z => h z.2), if_neg h]
def cIH (M : gMem) (d : Nat) (p o : Int) : gMem := if o = -1 then gup M (d + 1 + (8 + 4 * p.toNat)) 10 o else gup (gup (gup M (d + 1 + (8 + 4 * p.toNat)) 10 o) (d + 2 + (39 + 2 * o.toNat)) 3 p) (d + 2 + (39 + 2 * o.toNat)) 4 (-1)
def cOS (M : gMem) (d : Nat) (k h : Int) : gMem := if h = -1 then gup M (d + 3) k.toNat h else gup (gup (gup M (d + 3) k.toNat h) (d + 2 + (39 + 2 * h.toNat)) 3 (-1)) (d + 2 + (39 + 2 * h.toNat)) 4 k
def cBump (M : gMem) (d : Nat) (h : Int) : gMem := if h = -1 then M else gup M (d + 2 + (39 + 2 * h.toNat)) 5 (M (d + 2 + (39 + 2 * h.toNat)) 5 + 1)
section CMove
variable {M M' : gMem} {d : Nat} {r r' : gRow} {K K' : Int} {g : Nat → Nat}
theorem c_setInHand {p o : Int} (hp : 0 ≤ p ∧ p < 8) (ho : o = -1 ∨ (0 ≤ o ∧ o < 12)) : fX0_setInHand g d p o M = some (cIH M d p o) := by
  unfold fX0_setInHand fX0_setInHand_23 cIH
  rw [if_neg (by omega), if_neg (by omega), if_pos (by omega), gst_eq]
  rcases ho with ho | ho
  · rw [if_pos (by omega), if_pos ho]
  · simp (disch := omega) only [if_pos, if_neg, gst_eq]
theorem c_setOnSlot {k h : Int} (hk : 0 ≤ k ∧ k < 4) (hh : h = -1 ∨ (0 ≤ h ∧ h < 12)) : fX0_setOnSlot g d k h M = some (cOS M d k h) := by
  unfold fX0_setOnSlot fX0_setOnSlot_20 cOS
  rw [if_neg (by omega), if_neg (by omega), if_pos (by omega), gst_eq]
  rcases hh with hh | hh
  · rw [if_pos (by omega), if_pos hh]
  · simp (disch := omega) only [if_pos, if_neg, gst_eq]
theorem DRp.congr2 {b : Nat} {p : Int} (h : DRp M b r p) (hr : ∀ k : Int, 0 ≤ k → k < 86 → rp r' p k = rp r p k) (h3 : rp r p 3 ≤ 24) (h9 : 0 ≤ rp r p 9) (m0 : ∀ j : Nat, ¬ j = 10 → M' b j = M b j) (m10 : M' b 10 = qInHand r' p) (m1 : M' (b + 1) = M (b + 1)) (m2 : M' (b + 2) = M (b + 2)) (m3 : M' (b + 3) = M (b + 3)) : DRp M' b r' p := by
  obtain ⟨a1, a2, a3, a4, n, a5, a6⟩ := h
  refine ⟨fun k q1 q2 => ?_, m10, fun k q1 q2 => ?_, fun k q1 q2 q3 => ?_, n, ⟨a5.1, fun k q1 q2 => ?_, fun k q1 q2 => ?_⟩, ?_⟩
  · rw [m0 _ (cf_ne ⟨q1, q2⟩).1, hr k q1 (by omega)]; exact a1 k q1 q2
  · rw [hr 3 (by omega) (by omega)] at q2
    rw [m1, m2, hr _ (by omega) (by omega), hr _ (by omega) (by omega)]; exact a3 k q1 q2
  · rw [hr 9 (by omega) (by omega)] at q3 ⊢
    rw [m3, hr _ (by omega) (by omega)]; exact a4 k q1 q2 q3
  · have := a5.1
    rw [hr _ (by omega) (by omega)]; exact a5.2.1 k q1 q2
  · rw [hr _ (by omega) (by omega)]; exact a5.2.2 k q1 q2
  · rw [m0 3 (by omega), a6]
    have : ∀ m : Nat, m ≤ 8 → qPack (fun k => rp r p (10 + k)) m = qPack (fun k => rp r' p (10 + k)) m := by
      intro m
      induction m with
      | zero => intro _; rfl
      | succ m ih => intro hm; unfold qPack; rw [ih (by omega), hr (10 + (m : Int)) (by omega) (by omega)]
    exact this n (by have := a5.1; omega)
theorem c_moveStacks (hO : qOK r K) (hK : K ≤ 1000000000) (hD : DR M d r K) {p k : Int} (hp : 0 ≤ p ∧ p < r 1) (hk : 0 ≤ k ∧ k < r 0) : ∃ M', fX6_moveStacks g d p k M = some M' ∧ DR M' d (qEx r p (qInHand r p) k) (K + 1) ∧ gFr d M M' := by
  have h0 := hO.1
  have h1 := hO.2.1
  have h2 := hO.2.2.1
  have h5 := hO.2.2.2.2.2.1
  obtain ⟨A, B, D⟩ := qEx_facts hO hp hk
  have HH := fun q hq => qEx_hand hO hp hk (q := q) hq
  have SS := fun q hq => qEx_slot hO hp hk (q := q) hq
  have R := fun t j (ht : 0 ≤ t) (hj : 0 ≤ j ∧ j < 21) => qEx_rs (r := r) (p := p) (h := qInHand r p) (k := k) h2.1 (by omega) D t j ht hj
  have L := fun j hj => qEx_lo (r := r) (p := p) (h := qInHand r p) (k := k) h2.1 (by omega) j hj
  have H := fun j hj => qEx_hi (r := r) (p := p) (h := qInHand r p) (k := k) h2 (by omega) j hj
  obtain ⟨dd, dP, dS, dL, dt⟩ := hD
  have e10 := (dP p hp.1 hp.2).2.1
  have f1 := c_procAt_in (g := g) dd h1 hp
  have f2 := c_lyingOn (g := g) dL h0.2 hk
  have uq : ∀ s : Int, 0 ≤ s → s < r 2 → 0 ≤ rs r s 4 ∧ rs r s 4 ≤ K := fun s q1 q2 => (hO.2.2.2.2.2.2.2 s q1 q2).2.2.2.2.2.1
  have m5 : ∀ s : Int, 0 ≤ s → s < r 2 → M (d + 2 + (39 + 2 * s.toNat)) 5 = rs r s 4 := fun s q1 q2 => (dS s q1 q2).2.2.2.2.1
  generalize qEx r p (qInHand r p) k = r' at *
  generalize qInHand r p = h at *
  generalize qOnSlot r k = o at *
  have ho12 : o = -1 ∨ (0 ≤ o ∧ o < 12) := by omega
  have hh12 : h = -1 ∨ (0 ≤ h ∧ h < 12) := by omega
  have dd2 : DRd (cOS (cIH M d p o) d k h) d r := by
    refine dd.congr (fun _ _ => rfl) ?_
    unfold cOS cIH
    split <;> split <;> simp (disch := omega) only [gup_row]
  have key : fX6_moveStacks g d p k M = some (cBump (cBump (cOS (cIH M d p o) d k h) d h) d o) := by
    unfold fX6_moveStacks
    rw [f1, Option.bind_some, if_neg (by omega), gst_eq, e10, f2, Option.bind_some, c_setInHand (by omega) ho12, Option.bind_some, c_setOnSlot (by omega) hh12, Option.bind_some]
    have step : ∀ (N : gMem), DRd N d r → (o = -1 ∨ N (d + 2 + (39 + 2 * o.toNat)) 5 = rs r o 4) → fX6_moveStacks_62 g d o N = some (cBump N d o) := by
      intro N hN hv
      unfold fX6_moveStacks_62 cBump
      by_cases e : o = -1
      · rw [c_pileAt_out hN h2 (by omega), Option.bind_some, if_pos rfl, if_pos e]
      · have hv' : N (d + 2 + (39 + 2 * o.toNat)) 5 = rs r o 4 := by rcases hv with q | q; exact absurd q e; exact q
        have := uq o (by omega) (by omega)
        rw [c_pileAt_in hN h2 (by omega), Option.bind_some, if_neg (by omega), if_neg e, gst_eq, gwi_eq (by omega) (by omega)]
    by_cases e : h = -1
    · have c1 : cBump (cOS (cIH M d p o) d k h) d h = cOS (cIH M d p o) d k h := if_pos e
      rw [c_pileAt_out dd2 h2 (by omega), Option.bind_some, if_pos rfl, c1]
      refine step _ dd2 ?_
      by_cases e' : o = -1
      · exact Or.inl e'
      · right
        rw [← m5 o (by omega) (by omega)]
        unfold cOS cIH
        rw [if_pos e, if_neg e']
        simp (disch := omega) only [gup_miss]
    · have := uq h (by omega) (by omega)
      have v5 : (cOS (cIH M d p o) d k h) (d + 2 + (39 + 2 * h.toNat)) 5 = rs r h 4 := by
        rw [← m5 h (by omega) (by omega)]
        unfold cOS cIH
        rw [if_neg e]
        split <;> simp (disch := omega) only [gup_miss]
      have c1 : cBump (cOS (cIH M d p o) d k h) d h = gup (cOS (cIH M d p o) d k h) (d + 2 + (39 + 2 * h.toNat)) 5 (rs r h 4 + 1) := by unfold cBump; rw [if_neg e, v5]
      rw [c_pileAt_in dd2 h2 (by omega), Option.bind_some, if_neg (by omega), gst_eq, v5, gwi_eq (by omega) (by omega), c1]
      refine step _ (dd2.congr (fun _ _ => rfl) (gup_row (by omega))) ?_
      by_cases e' : o = -1
      · exact Or.inl e'
      · right
        rw [← m5 o (by omega) (by omega)]
        unfold cOS cIH
        rw [if_neg e, if_neg e']
        simp (disch := omega) only [gup_miss]
  generalize hM' : cBump (cBump (cOS (cIH M d p o) d k h) d h) d o = M' at key
  have m_off : ∀ x : Nat, ¬ x = d + 1 + (8 + 4 * p.toNat) → ¬ x = d + 3 → (h = -1 ∨ ¬ x = d + 2 + (39 + 2 * h.toNat)) → (o = -1 ∨ ¬ x = d + 2 + (39 + 2 * o.toNat)) → M' x = M x := by
    intro x q1 q2 q3 q4
    rw [← hM']
    unfold cBump cOS cIH
    by_cases e : h = -1 <;> by_cases e' : o = -1 <;> simp (disch := omega) only [if_pos, if_neg, gup_row]
  have m_p : ∀ j : Nat, M' (d + 1 + (8 + 4 * p.toNat)) j = if j = 10 then o else M (d + 1 + (8 + 4 * p.toNat)) j := by
    intro j
    rw [← hM', ← gup_at]
    unfold cBump cOS cIH
    by_cases e : h = -1 <;> by_cases e' : o = -1 <;> simp (disch := omega) only [if_pos, if_neg, gup_row]
  have m_l : ∀ j : Nat, M' (d + 3) j = if j = k.toNat then h else M (d + 3) j := by
    intro j
    rw [← hM', ← gup_at]
    unfold cBump cOS cIH
    by_cases e : h = -1 <;> by_cases e' : o = -1 <;> simp (disch := omega) only [if_pos, if_neg, gup_row, gup_at]
  have m_h : ¬ h = -1 → ∀ j : Nat, M' (d + 2 + (39 + 2 * h.toNat)) j = if j = 3 then -1 else if j = 4 then k else if j = 5 then rs r h 4 + 1 else M (d + 2 + (39 + 2 * h.toNat)) j := by
    intro e j
    rw [← hM', ← m5 h (by omega) (by omega)]
    unfold cBump cOS cIH
    by_cases e' : o = -1
    · simp (disch := omega) only [if_pos e', if_neg e, gup_row, gup_at]
      by_cases j5 : j = 5
      · simp [j5]
      · by_cases j4 : j = 4
        · simp [j4]
        · simp [j5, j4]
    · simp (disch := omega) only [if_neg e', if_neg e, gup_row, gup_at]
      by_cases j5 : j = 5
      · simp [j5]
      · by_cases j4 : j = 4
        · simp [j4]
        · simp [j5, j4]
  have m_o : ¬ o = -1 → ∀ j : Nat, M' (d + 2 + (39 + 2 * o.toNat)) j = if j = 3 then p else if j = 4 then -1 else if j = 5 then rs r o 4 + 1 else M (d + 2 + (39 + 2 * o.toNat)) j := by
    intro e j
    rw [← hM', ← m5 o (by omega) (by omega)]
    unfold cBump cOS cIH
    by_cases e' : h = -1
    · simp (disch := omega) only [if_pos e', if_neg e, gup_row, gup_at]
      by_cases j5 : j = 5
      · simp [j5]
      · by_cases j4 : j = 4
        · simp [j4]
        · simp [j5, j4]
    · simp (disch := omega) only [if_neg e', if_neg e, gup_row, gup_at]
      by_cases j5 : j = 5
      · simp [j5]
      · by_cases j4 : j = 4
        · simp [j4]
        · simp [j5, j4]
  refine ⟨M', key, ⟨dd.congr (fun j hj => L j (by omega)) (m_off _ (by omega) (by omega) (by omega) (by omega)), fun q q1 q2 => ?_, fun t q1 q2 => ?_, fun j q1 q2 => ?_, dt.congr (L 5 (by omega)) h5.2 (fun j hj => H j (by omega)) (by omega) (fun x q1 q2 => m_off x (by omega) (by omega) (by omega) (by omega))⟩, fun x q => m_off x (by omega) (by omega) (by omega) (by omega)⟩
  · rw [L 1 (by omega)] at q2
    have hOp := hO.p ⟨q1, q2⟩
    have hq := HH q ⟨q1, q2⟩
    by_cases e : q = p
    · rw [if_pos e] at hq
      rw [e] at hOp hq ⊢
      exact (dP p hp.1 hp.2).congr2 (fun k q3 q4 => L _ (by omega)) hOp.2.2.2.1.2 hOp.2.2.2.2.2.2.2.2.2.1.1 (fun j hj => by rw [m_p, if_neg hj]) (by rw [m_p, if_pos rfl, hq]) (m_off _ (by omega) (by omega) (by omega) (by omega)) (m_off _ (by omega) (by omega) (by omega) (by omega)) (m_off _ (by omega) (by omega) (by omega) (by omega))
    · rw [if_neg e] at hq
      exact (dP q q1 q2).congr (fun k q3 q4 => L _ (by omega)) hq hOp.2.2.2.1.2 hOp.2.2.2.2.2.2.2.2.2.1.1 (m_off _ (by omega) (by omega) (by omega) (by omega)) (m_off _ (by omega) (by omega) (by omega) (by omega)) (m_off _ (by omega) (by omega) (by omega) (by omega)) (m_off _ (by omega) (by omega) (by omega) (by omega))
  · rw [L 2 (by omega)] at q2
    obtain ⟨b1, b2, b3, b4, b5, b6⟩ := dS t q1 q2
    have hl := hO.len q1 q2
    have R' : ∀ j : Int, 0 ≤ j → j < 21 → ¬ j = 2 → ¬ j = 3 → ¬ j = 4 → rs r' t j = rs r t j := by
      intro j q3 q4 n2 n3 n4
      rw [R t j q1 ⟨q3, q4⟩]
      simp [n2, n3, n4]
    have m1 : M' (d + 2 + (39 + 2 * t.toNat) + 1) = M (d + 2 + (39 + 2 * t.toNat) + 1) := m_off _ (by omega) (by omega) (by omega) (by omega)
    unfold DRs
    rw [R' 0 (by omega) (by omega) (by omega) (by omega) (by omega), R' 1 (by omega) (by omega) (by omega) (by omega) (by omega), R t 2 q1 (by omega), R t 3 q1 (by omega), R t 4 q1 (by omega), m1]
    have last : ∀ k : Int, 0 ≤ k → k < rs r t 1 → M (d + 2 + (39 + 2 * t.toNat) + 1) k.toNat = rs r' t (5 + k) := fun k q3 q4 => by rw [R' _ (by omega) (by omega) (by omega) (by omega) (by omega)]; exact b6 k q3 q4
    by_cases e1 : t = h
    · have mh := m_h (by omega)
      rw [← e1] at mh
      simp only [mh, if_pos e1]
      refine ⟨?_, ?_, ?_, ?_, ?_, last⟩
      · simpa using b1
      · simpa using b2
      · simp
      · simp
      · simp
    · by_cases e2 : t = o
      · have mo := m_o (by omega)
        rw [← e2] at mo
        simp only [mo, if_neg e1, if_pos e2]
        refine ⟨?_, ?_, ?_, ?_, ?_, last⟩
        · simpa using b1
        · simpa using b2
        · simp
        · simp
        · simp
      · rw [m_off _ (by omega) (by omega) (by omega) (by omega)]
        simp only [if_neg e1, if_neg e2]
        exact ⟨b1, b2, b3, b4, b5, last⟩
  · rw [L 0 (by omega)] at q2
    rw [m_l, SS j ⟨q1, q2⟩]
    by_cases e : j = k
    · rw [if_pos (by rw [e]), if_pos e]
    · rw [if_neg (by omega), if_neg e]; exact dL j q1 q2
end CMove
