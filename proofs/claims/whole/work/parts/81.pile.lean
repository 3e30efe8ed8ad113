/-! PURE: a stack is told: in the row and in the class's desk -/
/-- the row with the stack s, empty, of that room, in a hand or on a slot -/
def qPile (r : gRow) (s room hand slot : Int) : gRow := rup (rss (rss (rss r s 0 room) s 2 hand) s 3 slot) 2 (s + 1)
/-- the class's desk with a stack begun, which is nowhere yet -/
def DA (M : gMem) (d : Nat) (r : gRow) (s room : Int) : Prop := DR (gup M d 6 s) d r 0 ∧ M d 6 = s + 1 ∧ M (d + 2 + (39 + 2 * s.toNat)) 1 = 0 ∧ M (d + 2 + (39 + 2 * s.toNat)) 2 = room ∧ M (d + 2 + (39 + 2 * s.toNat)) 3 = -1 ∧ M (d + 2 + (39 + 2 * s.toNat)) 4 = -1 ∧ M (d + 2 + (39 + 2 * s.toNat)) 5 = 0
section Pile
variable {M M' : gMem} {b a d : Nat} {n K s room : Int} {g : Nat → Nat} {r : gRow}
theorem DA.frame (hO : qOK r 0) (h : DA M d r s room) (hs : 0 ≤ s ∧ s < 12) (hm : ∀ y : Nat, d ≤ y → y < d + 65 → M' y = M y) : DA M' d r s room := by
  obtain ⟨h1, h2, h3, h4, h5, h6, h7⟩ := h
  refine ⟨h1.frame hO (fun y q1 q2 => ?_), ?_, ?_, ?_, ?_, ?_, ?_⟩
  · by_cases e : y = d
    · rw [e]
      funext j
      show (if d = d ∧ j = 6 then s else M' d j) = (if d = d ∧ j = 6 then s else M d j)
      rw [hm d (by omega) (by omega)]
    · rw [gup_row e, gup_row e]; exact hm y q1 q2
  · rw [hm d (by omega) (by omega)]; exact h2
  · rw [hm _ (by omega) (by omega)]; exact h3
  · rw [hm _ (by omega) (by omega)]; exact h4
  · rw [hm _ (by omega) (by omega)]; exact h5
  · rw [hm _ (by omega) (by omega)]; exact h6
  · rw [hm _ (by omega) (by omega)]; exact h7
theorem c_addPile (hO : qOK r 0) (hD : DR M d r 0) (h2 : r 2 = s) (hs : 0 ≤ s ∧ s < 12) : ∃ M', fX0_addPile g d room M = some (d + 2 + (39 + 2 * s.toNat), M') ∧ DA M' d r s room ∧ gFr d M M' := by
  have e6 : M d 6 = s := by rw [hD.1.2.2.1]; exact h2
  unfold fX0_addPile fX3_begin
  rw [e6, if_neg (by omega), if_pos hs.2, if_pos hs]
  simp only [gst_eq]
  rw [Option.bind_some]
  generalize hM1 : gup (gup (gup (gup (gup M (d + 2 + (39 + 2 * s.toNat)) 1 0) (d + 2 + (39 + 2 * s.toNat)) 2 room) (d + 2 + (39 + 2 * s.toNat)) 3 (-1)) (d + 2 + (39 + 2 * s.toNat)) 4 (-1)) (d + 2 + (39 + 2 * s.toNat)) 5 0 = M1
  have fr : ∀ y : Nat, ¬ y = d + 2 + (39 + 2 * s.toNat) → M1 y = M y := fun y q => by
    rw [← hM1]
    simp (disch := omega) only [gup_row]
  have m6 : M1 d 6 = s := by rw [fr d (by omega)]; exact e6
  rw [m6, gwi_eq (by omega) (by omega)]
  have row : ∀ y : Nat, ¬ y = d → gup M1 d 6 (s + 1) y = M1 y := fun y q => gup_row q
  refine ⟨_, rfl, ⟨?_, gup_hit rfl rfl, ?_, ?_, ?_, ?_, ?_⟩, fun y q => ?_⟩
  · have e : gup (gup M1 d 6 (s + 1)) d 6 s d = M d := by
      funext j
      show (if d = d ∧ j = 6 then s else (if d = d ∧ j = 6 then s + 1 else M1 d j)) = M d j
      by_cases hj : j = 6
      · rw [if_pos ⟨rfl, hj⟩, hj]; exact e6.symm
      · rw [if_neg (fun z => hj z.2), if_neg (fun z => hj z.2), fr d (by omega)]
    obtain ⟨A, B, C, D, E⟩ := hD
    have h5 := hO.2.2.2.2.2.1
    have h1 := hO.2.1
    have fo : ∀ y : Nat, ¬ y = d + 2 + (39 + 2 * s.toNat) → gup (gup M1 d 6 (s + 1)) d 6 s y = M y := fun y q => by
      by_cases ey : y = d
      · rw [ey]; exact e
      · rw [gup_row ey, gup_row ey]; exact fr y q
    refine ⟨A.congr (fun _ _ => rfl) (fo d (by omega)), fun p q1 q2 => ?_, fun t q1 q2 => ?_, D.congr rfl (fun _ => rfl) (fo _ (by omega)), E.congr rfl h5.2 (fun _ _ => rfl) (Int.le_refl 0) (fun y q1 q2 => fo y (by omega))⟩
    · have hOp := hO.p ⟨q1, q2⟩
      exact (B p q1 q2).congr (fun _ _ _ => rfl) rfl hOp.2.2.2.1.2 hOp.2.2.2.2.2.2.2.2.2.1.1 (fo _ (by omega)) (fo _ (by omega)) (fo _ (by omega)) (fo _ (by omega))
    · exact (C t q1 q2).congr (hO.len q1 q2).2 (fun _ _ _ => rfl) (fo _ (by omega)) (fo _ (by omega))
  · rw [row _ (by omega), ← hM1]; simp (disch := omega) only [gup_miss]; exact gup_hit rfl rfl
  · rw [row _ (by omega), ← hM1]; simp (disch := omega) only [gup_miss]; exact gup_hit rfl rfl
  · rw [row _ (by omega), ← hM1]; simp (disch := omega) only [gup_miss]; exact gup_hit rfl rfl
  · rw [row _ (by omega), ← hM1]; simp (disch := omega) only [gup_miss]; exact gup_hit rfl rfl
  · rw [row _ (by omega), ← hM1]; exact gup_hit rfl rfl
  · rw [row y (by omega)]; exact fr y (by omega)
/-! what the row says with the stack s -/
theorem qPile_o {hand slot : Int} (hs : 0 ≤ s ∧ s < 12) {j : Nat} (h2 : ¬ j = 2) (hj : j < 694 ∨ 694 + 21 * (s + 1) ≤ (j : Int) ∨ (j : Int) < 694 + 21 * s) : qPile r s room hand slot j = r j := by
  unfold qPile
  rw [rup_miss (by rw [tn2]; exact h2), show ∀ (r : gRow) (k v : Int), 0 ≤ k → k < 21 → rss r s k v j = r j from fun r k v h1 h2 => rup_miss (by omega), show ∀ (r : gRow) (k v : Int), 0 ≤ k → k < 21 → rss r s k v j = r j from fun r k v h1 h2 => rup_miss (by omega), show ∀ (r : gRow) (k v : Int), 0 ≤ k → k < 21 → rss r s k v j = r j from fun r k v h1 h2 => rup_miss (by omega)]
  all_goals omega
theorem qPile_2 {hand slot : Int} : qPile r s room hand slot 2 = s + 1 := rup_hit (by rfl)
theorem qPile_rs {hand slot : Int} (hs : 0 ≤ s ∧ s < 12) {t k : Int} (ht : 0 ≤ t) (hk : 0 ≤ k ∧ k < 21) : rs (qPile r s room hand slot) t k = if t = s ∧ k = 3 then slot else if t = s ∧ k = 2 then hand else if t = s ∧ k = 0 then room else rs r t k := by
  unfold qPile
  rw [rs_rup (show ¬ (694 + 21 * t + k).toNat = (2 : Int).toNat by rw [tn2]; omega)]
  by_cases c1 : t = s ∧ k = 3
  · rw [if_pos c1, c1.1, c1.2, rs_rss_eq]
  · rw [if_neg c1, rs_rss_ne hs.1 ht (by omega) hk c1]
    by_cases c2 : t = s ∧ k = 2
    · rw [if_pos c2, c2.1, c2.2, rs_rss_eq]
    · rw [if_neg c2, rs_rss_ne hs.1 ht (by omega) hk c2]
      by_cases c3 : t = s ∧ k = 0
      · rw [if_pos c3, c3.1, c3.2, rs_rss_eq]
      · rw [if_neg c3, rs_rss_ne hs.1 ht (by omega) hk c3]
/-- where it may be told to be -/
def qPl (r : gRow) (hand slot : Int) : Prop := (hand = -1 ∧ 0 ≤ slot ∧ slot < r 0 ∧ qOnSlot r slot = -1) ∨ (slot = -1 ∧ 0 ≤ hand ∧ hand < r 1 ∧ qInHand r hand = -1)
theorem qInHand_none (h2 : 0 ≤ r 2) {p : Int} (h : qInHand r p = -1) {t : Int} (h0 : 0 ≤ t) (ht : t < r 2) : ¬ rs r t 2 = p := by
  unfold qInHand at h
  rcases qFind_spec (fun s => decide (rs r s 2 = p)) (r 2).toNat 0 with ⟨-, z⟩ | ⟨z1, z2, z3, -⟩
  · have := z t h0 (by omega)
    exact of_decide_eq_false this
  · omega
theorem qOnSlot_none (h2 : 0 ≤ r 2) {p : Int} (h : qOnSlot r p = -1) {t : Int} (h0 : 0 ≤ t) (ht : t < r 2) : ¬ rs r t 3 = p := by
  unfold qOnSlot at h
  rcases qFind_spec (fun s => decide (rs r s 3 = p)) (r 2).toNat 0 with ⟨-, z⟩ | ⟨z1, z2, z3, -⟩
  · have := z t h0 (by omega)
    exact of_decide_eq_false this
  · omega
theorem qOK_pile {hand slot : Int} (hO : qOK r 0) (h2 : r 2 = s) (hs : 0 ≤ s ∧ s < 12) (hfs : qFreS r s) (hroom : 1 ≤ room ∧ room ≤ 16) (hw : qPl r hand slot) : qOK (qPile r s room hand slot) 0 := by
  have hr0 := hO.1
  have hr1 := hO.2.1
  have X : ∀ t k : Int, 0 ≤ t → 0 ≤ k → k < 21 → rs (qPile r s room hand slot) t k = if t = s ∧ k = 3 then slot else if t = s ∧ k = 2 then hand else if t = s ∧ k = 0 then room else rs r t k := fun t k q1 q2 q3 => qPile_rs hs q1 ⟨q2, q3⟩
  have Xo : ∀ t k : Int, 0 ≤ t → ¬ t = s → 0 ≤ k → k < 21 → rs (qPile r s room hand slot) t k = rs r t k := fun t k q1 q2 q3 q4 => by rw [X t k q1 q3 q4, if_neg (fun z => q2 z.1), if_neg (fun z => q2 z.1), if_neg (fun z => q2 z.1)]
  have z : ∀ k : Int, 0 ≤ k → k < 21 → rs r s k = 0 := fun k q1 q2 => hfs _ (by omega) (by omega)
  have x0 : rs (qPile r s room hand slot) s 0 = room := by rw [X s 0 hs.1 (by omega) (by omega), if_neg (by omega), if_neg (by omega), if_pos ⟨rfl, rfl⟩]
  have x1 : rs (qPile r s room hand slot) s 1 = 0 := by rw [X s 1 hs.1 (by omega) (by omega), if_neg (by omega), if_neg (by omega), if_neg (by omega)]; exact z 1 (by omega) (by omega)
  have x2 : rs (qPile r s room hand slot) s 2 = hand := by rw [X s 2 hs.1 (by omega) (by omega), if_neg (by omega), if_pos ⟨rfl, rfl⟩]
  have x3 : rs (qPile r s room hand slot) s 3 = slot := by rw [X s 3 hs.1 (by omega) (by omega), if_pos ⟨rfl, rfl⟩]
  have x4 : rs (qPile r s room hand slot) s 4 = 0 := by rw [X s 4 hs.1 (by omega) (by omega), if_neg (by omega), if_neg (by omega), if_neg (by omega)]; exact z 4 (by omega) (by omega)
  have L : ∀ j : Nat, ¬ j = 2 → j < 694 → qPile r s room hand slot j = r j := fun j q1 q2 => qPile_o hs q1 (Or.inl q2)
  obtain ⟨a0, a1, a2, a3, a4, a5, a6, a7⟩ := hO
  unfold qOK
  rw [L 0 (by omega) (by omega), L 1 (by omega) (by omega), qPile_2, L 3 (by omega) (by omega), L 4 (by omega) (by omega), L 5 (by omega) (by omega)]
  refine ⟨a0, a1, by omega, a3, a4, a5, fun p q1 q2 => (a6 p q1 q2).congr (Int.le_refl 0) (L 0 (by omega) (by omega)) (fun k q3 q4 => L _ (by omega) (by omega)), fun t q1 q2 => ?_⟩
  unfold qOKs
  rw [L 0 (by omega) (by omega), L 1 (by omega) (by omega), qPile_2]
  by_cases e : t = s
  · subst e
    rw [x0, x1, x2, x3, x4]
    refine ⟨hroom, by omega, ?_, ?_, ?_, by omega, fun k q3 q4 => by omega, fun t' q3 q4 q5 => ?_⟩
    · rcases hw with h | h <;> omega
    · rcases hw with h | h <;> omega
    · rcases hw with h | h <;> omega
    · rw [Xo t' 2 q3 q5 (by omega) (by omega), Xo t' 3 q3 q5 (by omega) (by omega)]
      rcases hw with ⟨h1, h2', h3, h4⟩ | ⟨h1, h2', h3, h4⟩
      · exact ⟨Or.inl h1, Or.inr (qOnSlot_none a2.1 h4 q3 (by omega))⟩
      · exact ⟨Or.inr (qInHand_none a2.1 h4 q3 (by omega)), Or.inl h1⟩
  · have hOs := a7 t q1 (by omega)
    unfold qOKs at hOs
    rw [Xo t 0 q1 e (by omega) (by omega), Xo t 1 q1 e (by omega) (by omega), Xo t 2 q1 e (by omega) (by omega), Xo t 3 q1 e (by omega) (by omega), Xo t 4 q1 e (by omega) (by omega)]
    obtain ⟨b0, b1, b2, b3, b4, b5, b6, b7⟩ := hOs
    refine ⟨b0, b1, b2, b3, b4, b5, fun k q3 q4 => by rw [Xo t (5 + k) q1 e (by omega) (by omega)]; exact b6 k q3 q4, fun t' q3 q4 q5 => ?_⟩
    by_cases e' : t' = s
    · subst e'
      rw [x2, x3]
      rcases hw with ⟨h1, h2', h3, h4⟩ | ⟨h1, h2', h3, h4⟩
      · refine ⟨?_, ?_⟩
        · by_cases y : rs r t 2 = -1
          · exact Or.inl y
          · exact Or.inr (by omega)
        · exact Or.inr (fun y => qOnSlot_none a2.1 h4 q1 (by omega) y.symm)
      · refine ⟨Or.inr (fun y => qInHand_none a2.1 h4 q1 (by omega) y.symm), ?_⟩
        by_cases y : rs r t 3 = -1
        · exact Or.inl y
        · exact Or.inr (by omega)
    · rw [Xo t' 2 q3 e' (by omega) (by omega), Xo t' 3 q3 e' (by omega) (by omega)]
      exact b7 t' q3 (by omega) q5
theorem qPile_hand {hand slot : Int} (hO : qOK r 0) (h2 : r 2 = s) (hs : 0 ≤ s ∧ s < 12) (hfs : qFreS r s) (hroom : 1 ≤ room ∧ room ≤ 16) (hw : qPl r hand slot) {q : Int} (hq : 0 ≤ q) : qInHand (qPile r s room hand slot) q = if q = hand then s else qInHand r q := by
  have hO' := qOK_pile (room := room) hO h2 hs hfs hroom hw
  have x2 : rs (qPile r s room hand slot) s 2 = hand := by rw [qPile_rs hs hs.1 (by omega), if_neg (by omega), if_pos ⟨rfl, rfl⟩]
  have Xo : ∀ t : Int, 0 ≤ t → ¬ t = s → rs (qPile r s room hand slot) t 2 = rs r t 2 := fun t q1 q2 => by rw [qPile_rs hs q1 (by omega), if_neg (fun z => q2 z.1), if_neg (fun z => q2 z.1), if_neg (fun z => q2 z.1)]
  have n2 : qPile r s room hand slot 2 = s + 1 := qPile_2
  by_cases e : q = hand
  · rw [if_pos e]
    exact qHand_one hO' (by omega) hq (by rw [x2, e])
  · rw [if_neg e]
    rcases qHand_in (r := r) hO.2.2.1.1 q with h | ⟨h, h3⟩
    · rw [h]
      refine qHand_none (fun t q1 q2 => ?_)
      by_cases et : t = s
      · rw [et, x2]; exact fun z => e z.symm
      · rw [Xo t q1 et]; exact qInHand_none hO.2.2.1.1 h q1 (by omega)
    · exact qHand_one hO' (by omega) hq (by rw [Xo _ h.1 (by omega)]; exact h3)
theorem qPile_slot {hand slot : Int} (hO : qOK r 0) (h2 : r 2 = s) (hs : 0 ≤ s ∧ s < 12) (hfs : qFreS r s) (hroom : 1 ≤ room ∧ room ≤ 16) (hw : qPl r hand slot) {q : Int} (hq : 0 ≤ q) : qOnSlot (qPile r s room hand slot) q = if q = slot then s else qOnSlot r q := by
  have hO' := qOK_pile (room := room) hO h2 hs hfs hroom hw
  have x3 : rs (qPile r s room hand slot) s 3 = slot := by rw [qPile_rs hs hs.1 (by omega), if_pos ⟨rfl, rfl⟩]
  have Xo : ∀ t : Int, 0 ≤ t → ¬ t = s → rs (qPile r s room hand slot) t 3 = rs r t 3 := fun t q1 q2 => by rw [qPile_rs hs q1 (by omega), if_neg (fun z => q2 z.1), if_neg (fun z => q2 z.1), if_neg (fun z => q2 z.1)]
  have n2 : qPile r s room hand slot 2 = s + 1 := qPile_2
  by_cases e : q = slot
  · rw [if_pos e]
    exact qSlot_one hO' (by omega) hq (by rw [x3, e])
  · rw [if_neg e]
    rcases qSlot_in (r := r) hO.2.2.1.1 q with h | ⟨h, h3⟩
    · rw [h]
      refine qSlot_none (fun t q1 q2 => ?_)
      by_cases et : t = s
      · rw [et, x3]; exact fun z => e z.symm
      · rw [Xo t q1 et]; exact qOnSlot_none hO.2.2.1.1 h q1 (by omega)
    · exact qSlot_one hO' (by omega) hq (by rw [Xo _ h.1 (by omega)]; exact h3)
/-- the memory in which the stack is where it was told -/
theorem DR_pile {hand slot : Int} (hO : qOK r 0) (h2 : r 2 = s) (hs : 0 ≤ s ∧ s < 12) (hfs : qFreS r s) (hroom : 1 ≤ room ∧ room ≤ 16) (hw : qPl r hand slot) (hA : DA M d r s room)
    (m0 : M' d = M d) (mt : ∀ y : Nat, d + 4 ≤ y → y ≤ d + 8 → M' y = M y)
    (mp : ∀ q : Int, 0 ≤ q → q < r 1 → (∀ j : Nat, ¬ j = 10 → M' (d + 1 + (8 + 4 * q.toNat)) j = M (d + 1 + (8 + 4 * q.toNat)) j) ∧ M' (d + 1 + (8 + 4 * q.toNat)) 10 = (if q = hand then s else M (d + 1 + (8 + 4 * q.toNat)) 10) ∧ ∀ i : Nat, 1 ≤ i → i ≤ 3 → M' (d + 1 + (8 + 4 * q.toNat) + i) = M (d + 1 + (8 + 4 * q.toNat) + i))
    (ml : ∀ k : Int, 0 ≤ k → k < r 0 → M' (d + 3) k.toNat = (if k = slot then s else M (d + 3) k.toNat))
    (ms : ∀ t : Int, 0 ≤ t → t < s → M' (d + 2 + (39 + 2 * t.toNat)) = M (d + 2 + (39 + 2 * t.toNat)) ∧ M' (d + 2 + (39 + 2 * t.toNat) + 1) = M (d + 2 + (39 + 2 * t.toNat) + 1))
    (m1 : M' (d + 2 + (39 + 2 * s.toNat)) 1 = 0) (m2 : M' (d + 2 + (39 + 2 * s.toNat)) 2 = room) (m3 : M' (d + 2 + (39 + 2 * s.toNat)) 3 = hand) (m4 : M' (d + 2 + (39 + 2 * s.toNat)) 4 = slot) (m5 : M' (d + 2 + (39 + 2 * s.toNat)) 5 = 0) : DR M' d (qPile r s room hand slot) 0 := by
  have hr0 := hO.1
  have hr1 := hO.2.1
  have h5 := hO.2.2.2.2.2.1
  obtain ⟨⟨A, B, C, D, E⟩, a6, -⟩ := hA
  have L : ∀ j : Nat, ¬ j = 2 → j < 694 → qPile r s room hand slot j = r j := fun j q1 q2 => qPile_o hs q1 (Or.inl q2)
  have z : ∀ k : Int, 0 ≤ k → k < 21 → rs r s k = 0 := fun k q1 q2 => hfs _ (by omega) (by omega)
  have row : ∀ y : Nat, ¬ y = d → gup M d 6 s y = M y := fun y q => gup_row q
  obtain ⟨A4, A5, A6, A7, A8⟩ := A
  rw [gup_miss (by omega)] at A4 A5 A7 A8
  refine ⟨⟨?_, ?_, ?_, ?_, ?_⟩, fun q q1 q2 => ?_, fun t q1 q2 => ?_, fun k q1 q2 => ?_, ?_⟩
  · rw [m0, L 0 (by omega) (by omega)]; exact A4
  · rw [m0, L 1 (by omega) (by omega)]; exact A5
  · rw [m0, qPile_2]; exact a6
  · rw [m0, L 3 (by omega) (by omega)]; exact A7
  · rw [m0, L 4 (by omega) (by omega)]; exact A8
  · rw [L 1 (by omega) (by omega)] at q2
    have hOp := hO.p ⟨q1, q2⟩
    have h24 := hOp.2.2.2.1
    obtain ⟨p1, p2, p3⟩ := mp q q1 q2
    obtain ⟨b1, b2, b3, b4, m, b5, b6⟩ := B q q1 q2
    rw [row _ (by omega)] at b2 b6
    have R : ∀ k : Int, 0 ≤ k → k < 86 → rp (qPile r s room hand slot) q k = rp r q k := fun k w1 w2 => L _ (by omega) (by omega)
    refine ⟨fun k w1 w2 => ?_, ?_, fun k w1 w2 => ?_, fun k w1 w2 w3 => ?_, m, ⟨b5.1, fun k w1 w2 => ?_, fun k w1 w2 => ?_⟩, ?_⟩
    · have := b1 k w1 w2
      rw [row _ (by omega)] at this
      rw [p1 _ (cf_ne ⟨w1, w2⟩).1, R k w1 (by omega)]
      exact this
    · rw [p2, qPile_hand hO h2 hs hfs hroom hw q1, b2]
    · rw [R 3 (by omega) (by omega)] at w2
      have := b3 k w1 w2
      rw [row _ (by omega), row _ (by omega)] at this
      rw [p3 1 (by omega) (by omega), p3 2 (by omega) (by omega), R (18 + k) (by omega) (by omega), R (42 + k) (by omega) (by omega)]
      exact this
    · rw [R 9 (by omega) (by omega)] at w3 ⊢
      have := b4 k w1 w2 w3
      rw [row _ (by omega)] at this
      rw [p3 3 (by omega) (by omega), R (66 + k) (by omega) (by omega)]
      exact this
    · have := b5.1
      rw [R (10 + k) (by omega) (by omega)]; exact b5.2.1 k w1 w2
    · rw [R (10 + k) (by omega) (by omega)]; exact b5.2.2 k w1 w2
    · have := b5.1
      rw [p1 3 (by omega), b6]
      exact qPack_congr _ (fun k w1 w2 => (R (10 + k) (by omega) (by omega)).symm)
  · rw [qPile_2] at q2
    have X : ∀ k : Int, 0 ≤ k → k < 21 → rs (qPile r s room hand slot) t k = if t = s ∧ k = 3 then slot else if t = s ∧ k = 2 then hand else if t = s ∧ k = 0 then room else rs r t k := fun k w1 w2 => qPile_rs hs q1 ⟨w1, w2⟩
    by_cases e : t = s
    · subst e
      refine ⟨?_, ?_, ?_, ?_, ?_, fun k w1 w2 => ?_⟩
      · rw [m2, X 0 (by omega) (by omega), if_neg (by omega), if_neg (by omega), if_pos ⟨rfl, rfl⟩]
      · rw [m1, X 1 (by omega) (by omega), if_neg (by omega), if_neg (by omega), if_neg (by omega), z 1 (by omega) (by omega)]
      · rw [m3, X 2 (by omega) (by omega), if_neg (by omega), if_pos ⟨rfl, rfl⟩]
      · rw [m4, X 3 (by omega) (by omega), if_pos ⟨rfl, rfl⟩]
      · rw [m5, X 4 (by omega) (by omega), if_neg (by omega), if_neg (by omega), if_neg (by omega), z 4 (by omega) (by omega)]
      · rw [X 1 (by omega) (by omega), if_neg (by omega), if_neg (by omega), if_neg (by omega), z 1 (by omega) (by omega)] at w2
        omega
    · obtain ⟨s1, s2⟩ := ms t q1 (by omega)
      exact (C t q1 (by omega)).congr (hO.len q1 (by omega)).2 (fun k w1 w2 => by rw [X k w1 w2, if_neg (fun y => e y.1), if_neg (fun y => e y.1), if_neg (fun y => e y.1)]) (by rw [s1, row _ (by omega)]) (by rw [s2, row _ (by omega)])
  · rw [L 0 (by omega) (by omega)] at q2
    have := D k q1 q2
    rw [row _ (by omega)] at this
    rw [ml k q1 q2, qPile_slot hO h2 hs hfs hroom hw q1, this]
  · refine E.congr (L 5 (by omega) (by omega)) h5.2 (fun j hj => qPile_o hs (by omega) (by omega)) (Int.le_refl 0) (fun y q1 q2 => by rw [mt y (by omega) (by omega), row _ (by omega)])
theorem c_pileHand {p : Int} (hO : qOK r 0) (h2 : r 2 = s) (hs : 0 ≤ s ∧ s < 12) (hfs : qFreS r s) (hroom : 1 ≤ room ∧ room ≤ 16) (hp : 0 ≤ p ∧ p < r 1) (hh : qInHand r p = -1) (hA : DA M d r s room) : ∃ M', fX0_setInHand g d p s M = some M' ∧ DR M' d (qPile r s room p (-1)) 0 ∧ gFr d M M' := by
  have hr1 := hO.2.1
  have hA0 := hA
  obtain ⟨-, -, c1, c2, c3, c4, c5⟩ := hA
  refine ⟨_, c_setInHand (by omega) (Or.inr hs), DR_pile hO h2 hs hfs hroom (Or.inr ⟨rfl, hp.1, hp.2, hh⟩) hA0 ?_ ?_ ?_ ?_ ?_ ?_ ?_ ?_ ?_ ?_, ?_⟩
  all_goals (unfold cIH; rw [if_neg (show ¬ s = -1 by omega)])
  · rw [gup_row (by omega), gup_row (by omega), gup_row (by omega)]
  · intro y q1 q2
    rw [gup_row (by omega), gup_row (by omega), gup_row (by omega)]
  · intro q q1 q2
    refine ⟨fun j hj => ?_, ?_, fun i i1 i2 => ?_⟩
    · rw [gup_row (by omega), gup_row (by omega), gup_miss (fun z => hj z.2)]
    · rw [gup_row (by omega), gup_row (by omega)]
      by_cases e : q = p
      · rw [if_pos e, gup_hit (by rw [e]) rfl]
      · rw [if_neg e, gup_row (by omega)]
    · rw [gup_row (by omega), gup_row (by omega), gup_row (by omega)]
  · intro k q1 q2
    rw [gup_row (by omega), gup_row (by omega), gup_row (by omega), if_neg (by omega)]
  · intro t q1 q2
    exact ⟨by rw [gup_row (by omega), gup_row (by omega), gup_row (by omega)], by rw [gup_row (by omega), gup_row (by omega), gup_row (by omega)]⟩
  · rw [gup_miss (by omega), gup_miss (by omega), gup_row (by omega)]; exact c1
  · rw [gup_miss (by omega), gup_miss (by omega), gup_row (by omega)]; exact c2
  · rw [gup_miss (by omega)]; exact gup_hit rfl rfl
  · exact gup_hit rfl rfl
  · rw [gup_miss (by omega), gup_miss (by omega), gup_row (by omega)]; exact c5
  · intro y q
    rw [gup_row (by omega), gup_row (by omega), gup_row (by omega)]
theorem c_pileSlot {k : Int} (hO : qOK r 0) (h2 : r 2 = s) (hs : 0 ≤ s ∧ s < 12) (hfs : qFreS r s) (hroom : 1 ≤ room ∧ room ≤ 16) (hk : 0 ≤ k ∧ k < r 0) (hh : qOnSlot r k = -1) (hA : DA M d r s room) : ∃ M', fX0_setOnSlot g d k s M = some M' ∧ DR M' d (qPile r s room (-1) k) 0 ∧ gFr d M M' := by
  have hr0 := hO.1
  have hr1 := hO.2.1
  have hA0 := hA
  obtain ⟨-, -, c1, c2, c3, c4, c5⟩ := hA
  refine ⟨_, c_setOnSlot (by omega) (Or.inr hs), DR_pile hO h2 hs hfs hroom (Or.inl ⟨rfl, hk.1, hk.2, hh⟩) hA0 ?_ ?_ ?_ ?_ ?_ ?_ ?_ ?_ ?_ ?_, ?_⟩
  all_goals (unfold cOS; rw [if_neg (show ¬ s = -1 by omega)])
  · rw [gup_row (by omega), gup_row (by omega), gup_row (by omega)]
  · intro y q1 q2
    rw [gup_row (by omega), gup_row (by omega), gup_row (by omega)]
  · intro q q1 q2
    refine ⟨fun j hj => ?_, ?_, fun i i1 i2 => ?_⟩
    · rw [gup_row (by omega), gup_row (by omega), gup_row (by omega)]
    · rw [gup_row (by omega), gup_row (by omega), gup_row (by omega), if_neg (by omega)]
    · rw [gup_row (by omega), gup_row (by omega), gup_row (by omega)]
  · intro j q1 q2
    rw [gup_row (by omega), gup_row (by omega)]
    by_cases e : j = k
    · rw [if_pos e, gup_hit rfl (by rw [e])]
    · rw [if_neg e, gup_miss (by omega)]
  · intro t q1 q2
    exact ⟨by rw [gup_row (by omega), gup_row (by omega), gup_row (by omega)], by rw [gup_row (by omega), gup_row (by omega), gup_row (by omega)]⟩
  · rw [gup_miss (by omega), gup_miss (by omega), gup_row (by omega)]; exact c1
  · rw [gup_miss (by omega), gup_miss (by omega), gup_row (by omega)]; exact c2
  · rw [gup_miss (by omega)]; exact gup_hit rfl rfl
  · exact gup_hit rfl rfl
  · rw [gup_miss (by omega), gup_miss (by omega), gup_row (by omega)]; exact c5
  · intro y q
    rw [gup_row (by omega), gup_row (by omega), gup_row (by omega)]
end Pile
