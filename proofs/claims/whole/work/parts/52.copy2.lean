/-! PURE: a desk copied onto another says the same -/
section Copy2
variable {M M' : gMem} {d d' : Nat} {r : gRow} {K : Int} {g : Nat → Nat}
theorem cf_rng {k : Int} (hk : 0 ≤ k ∧ k ≤ 9) : 3 ≤ cf k ∧ cf k ≤ 14 := by
  have hk' : k = 0 ∨ k = 1 ∨ k = 2 ∨ k = 3 ∨ k = 4 ∨ k = 5 ∨ k = 6 ∨ k = 7 ∨ k = 8 ∨ k = 9 := by omega
  rcases hk' with rfl | rfl | rfl | rfl | rfl | rfl | rfl | rfl | rfl | rfl <;> exact ⟨by decide, by decide⟩
theorem DR.copy (hO : qOK r K) (hD : DR M d r K) (h0 : ∀ j : Nat, 4 ≤ j → j ≤ 8 → M' d' j = M d j) (hL : ∀ j : Nat, j < 4 → M' (d' + 3) j = M (d + 3) j) (hP : ∀ q : Int, 0 ≤ q → q < 8 → cpP M M' (d + 1 + (8 + 4 * q.toNat)) (d' + 1 + (8 + 4 * q.toNat))) (hS : ∀ q : Int, 0 ≤ q → q < 12 → cpS M M' (d + 2 + (39 + 2 * q.toNat)) (d' + 2 + (39 + 2 * q.toNat))) (hT : cpL M M' (d + 4) (d' + 4)) : DR M' d' r K := by
  have o0 := hO.1
  have o1 := hO.2.1
  have o2 := hO.2.2.1
  obtain ⟨A, B, C, D, E⟩ := hD
  refine ⟨?_, fun p q1 q2 => ?_, fun s q1 q2 => ?_, fun k q1 q2 => ?_, ?_⟩
  · unfold DRd
    rw [h0 4 (by omega) (by omega), h0 5 (by omega) (by omega), h0 6 (by omega) (by omega), h0 7 (by omega) (by omega), h0 8 (by omega) (by omega)]
    exact A
  · have h3 := (hO.p ⟨q1, q2⟩).2.2.2.1
    obtain ⟨b1, b2, b3, b4⟩ := hP p q1 (by omega)
    obtain ⟨a1, a2, a3, a4, n, a5, a6⟩ := B p q1 q2
    refine ⟨fun k w1 w2 => ?_, ?_, fun k w1 w2 => ?_, fun k w1 w2 w3 => ?_, n, a5, ?_⟩
    · have := cf_rng ⟨w1, w2⟩
      rw [b1 _ this.1 this.2]; exact a1 k w1 w2
    · rw [b1 10 (by omega) (by omega)]; exact a2
    · rw [b2 _ (by omega), b3 _ (by omega)]; exact a3 k w1 w2
    · rw [b4 _ (by rw [tmod_pos (by omega)]; omega)]; exact a4 k w1 w2 w3
    · rw [b1 3 (by omega) (by omega)]; exact a6
  · have hl := hO.len q1 q2
    obtain ⟨b1, b2⟩ := hS s q1 (by omega)
    obtain ⟨a1, a2, a3, a4, a5, a6⟩ := C s q1 q2
    refine ⟨?_, ?_, ?_, ?_, ?_, fun k w1 w2 => ?_⟩
    · rw [b1 2 (by omega) (by omega)]; exact a1
    · rw [b1 1 (by omega) (by omega)]; exact a2
    · rw [b1 3 (by omega) (by omega)]; exact a3
    · rw [b1 4 (by omega) (by omega)]; exact a4
    · rw [b1 5 (by omega) (by omega)]; exact a5
    · rw [b2 _ (by omega)]; exact a6 k w1 w2
  · rw [hL _ (by omega)]; exact D k q1 q2
  · obtain ⟨b0, b1, b2, b3, b4⟩ := hT
    obtain ⟨t1, t2, t3, t4⟩ := E
    unfold DRt
    rw [b0]
    refine ⟨t1, t2, t3, fun b w1 w2 => ?_⟩
    have hn : r 5 ≤ M (d + 4) 4 := by rw [t3]; unfold gmin; split <;> omega
    have hx : ((M (d + 4) 4 - 1 - b).tmod 40).toNat < 40 := by rw [tmod_pos (by omega)]; omega
    rw [b1 _ hx, b2 _ hx, b3 _ hx, b4 _ hx]
    exact t4 b w1 w2
theorem c_copyFrom (hd : d + 65 ≤ d' ∨ d' + 65 ≤ d) (hO : qOK r K) (hD : DR M d r K) : ∃ M', fX0_copyFrom g d' d M = some M' ∧ DR M' d' r K ∧ gFr d' M M' := by
  obtain ⟨M1, e1, C1, F1⟩ := c_copyP_lp (g := g) hd 8 0 M gF (by omega) (by omega) (by unfold gF; omega)
  obtain ⟨M2, e2, C2, F2⟩ := c_copyS_lp (g := g) hd 12 0 M1 gF (by omega) (by omega) (by unfold gF; omega)
  obtain ⟨M4, e4, C4, F4⟩ := c_copyL (g := g) (M := gcp M2 (d + 3) 0 (d' + 3) 0 4) (b := d + 4) (b' := d' + 4) (by omega)
  have X1 : ∀ y : Nat, ¬ (d' + 9 ≤ y ∧ y ≤ d' + 40) → M1 y = M y := fun y hy => F1 y (by omega)
  have X2 : ∀ y : Nat, ¬ (d' + 41 ≤ y ∧ y ≤ d' + 64) → M2 y = M1 y := fun y hy => F2 y (by omega)
  have X4 : ∀ y : Nat, ¬ (d' + 3 ≤ y ∧ y ≤ d' + 8) → M4 y = M2 y := fun y hy => by rw [F4 y (by omega), gcp_row (by omega)]
  have X5 : ∀ y : Nat, ¬ y = d' → cfs d' d [4, 5, 6, 7, 8] M4 y = M4 y := fun y hy => cfs_off hy _ _
  have src : ∀ y : Nat, d ≤ y → y < d + 65 → M1 y = M y ∧ M2 y = M y ∧ M4 y = M y := fun y h1 h2 => by
    have a := X1 y (by omega)
    have b := X2 y (by omega)
    have c := X4 y (by omega)
    exact ⟨a, b.trans a, c.trans (b.trans a)⟩
  refine ⟨cfs d' d [4, 5, 6, 7, 8] M4, ?_, DR.copy hO hD (fun j q1 q2 => ?_) (fun j q => ?_) (fun q q1 q2 => ?_) (fun q q1 q2 => ?_) ?_, fun x q => ?_⟩
  · unfold fX0_copyFrom
    rw [e1]
    unfold fX0_copyFrom_41
    rw [e2]
    unfold fX0_copyFrom_82
    have tz : (4 : Int).toNat = 4 := rfl
    rw [tn0, tz, gst_eq, e4]
    rfl
  · have hj : j ∈ [4, 5, 6, 7, 8] := by simp; omega
    rw [cfs_at (by omega), if_pos hj, (src d (by omega) (by omega)).2.2]
  · rw [X5 _ (by omega), F4 _ (by omega), gcp_at q, (src (d + 3) (by omega) (by omega)).2.1]
  · have := C1 q q1 q2
    unfold cpP at this ⊢
    rw [X5 _ (by omega), X5 _ (by omega), X5 _ (by omega), X5 _ (by omega), X4 _ (by omega), X4 _ (by omega), X4 _ (by omega), X4 _ (by omega), X2 _ (by omega), X2 _ (by omega), X2 _ (by omega), X2 _ (by omega)]
    exact this
  · have := C2 q q1 q2
    unfold cpS at this ⊢
    rw [(src (d + 2 + (39 + 2 * q.toNat)) (by omega) (by omega)).1, (src (d + 2 + (39 + 2 * q.toNat) + 1) (by omega) (by omega)).1] at this
    rw [X5 _ (by omega), X5 _ (by omega), X4 _ (by omega), X4 _ (by omega)]
    exact this
  · have := C4
    unfold cpL at this ⊢
    have z : ∀ y : Nat, d + 4 ≤ y → y ≤ d + 8 → gcp M2 (d + 3) 0 (d' + 3) 0 4 y = M y := fun y h1 h2 => by rw [gcp_row (by omega)]; exact (src y (by omega) (by omega)).2.1
    rw [z _ (by omega) (by omega), z _ (by omega) (by omega), z _ (by omega) (by omega), z _ (by omega) (by omega), z _ (by omega) (by omega)] at this
    rw [X5 _ (by omega), X5 _ (by omega), X5 _ (by omega), X5 _ (by omega), X5 _ (by omega)]
    exact this
  · rw [X5 _ (by omega), X4 _ (by omega), X2 _ (by omega), X1 _ (by omega)]
end Copy2
