/-! PURE: rows under writing, and the desk's relation under it -/
section Upd1
variable {r : gRow} {p k s v : Int}
theorem rp_rsp_eq : rp (rsp r p k v) p k = v := rup_hit rfl
theorem rp_rsp_ne {p' k' : Int} (hp : 0 ≤ p) (hp' : 0 ≤ p') (hk : 0 ≤ k ∧ k < 86) (hk' : 0 ≤ k' ∧ k' < 86) (h : ¬ (p' = p ∧ k' = k)) : rp (rsp r p k v) p' k' = rp r p' k' := rup_miss (by omega)
theorem rs_rsp {k' : Int} (hp : 0 ≤ p ∧ p < 8) (hs : 0 ≤ s) (hk : 0 ≤ k ∧ k < 86) (hk' : 0 ≤ k') : rs (rsp r p k v) s k' = rs r s k' := rup_miss (by omega)
theorem rp_rss {k' : Int} (hp : 0 ≤ p ∧ p < 8) (hs : 0 ≤ s) (hk : 0 ≤ k) (hk' : 0 ≤ k' ∧ k' < 86) : rp (rss r s k v) p k' = rp r p k' := rup_miss (by omega)
theorem rs_rss_eq : rs (rss r s k v) s k = v := rup_hit rfl
theorem rs_rss_ne {s' k' : Int} (hs : 0 ≤ s) (hs' : 0 ≤ s') (hk : 0 ≤ k ∧ k < 21) (hk' : 0 ≤ k' ∧ k' < 21) (h : ¬ (s' = s ∧ k' = k)) : rs (rss r s k v) s' k' = rs r s' k' := rup_miss (by omega)
theorem rsp_lo {j : Nat} (hp : 0 ≤ p) (hk : 0 ≤ k) (hj : j < 6) : rsp r p k v j = r j := rup_miss (by omega)
theorem rsp_hi {j : Nat} (hp : 0 ≤ p ∧ p < 8) (hk : 0 ≤ k ∧ k < 86) (hj : 694 ≤ j) : rsp r p k v j = r j := rup_miss (by omega)
theorem rss_lo {j : Nat} (hs : 0 ≤ s) (hk : 0 ≤ k) (hj : j < 694) : rss r s k v j = r j := rup_miss (by omega)
theorem rss_hi {j : Nat} (hs : 0 ≤ s ∧ s < 12) (hk : 0 ≤ k ∧ k < 21) (hj : 946 ≤ j) : rss r s k v j = r j := rup_miss (by omega)
theorem rp_rup {i : Int} {p' k' : Int} (h : ¬ (6 + 86 * p' + k').toNat = i.toNat) : rp (rup r i v) p' k' = rp r p' k' := rup_miss h
theorem rs_rup {i : Int} {s' k' : Int} (h : ¬ (694 + 21 * s' + k').toNat = i.toNat) : rs (rup r i v) s' k' = rs r s' k' := rup_miss h
end Upd1
theorem qFind_congr {P Q : Int → Bool} : ∀ (n : Nat) (s : Int), (∀ i : Int, s ≤ i → i < s + n → P i = Q i) → qFind P n s = qFind Q n s := by
  intro n
  induction n with
  | zero => intro s _; rfl
  | succ n ih =>
    intro s h
    unfold qFind
    rw [h s (by omega) (by omega), ih (s + 1) (fun i h1 h2 => h i (by omega) (by omega))]
section Upd2
variable {M M' : gMem} {d : Nat} {r r' : gRow} {K K' : Int}
theorem qInHand_congr {p : Int} (h2 : r' 2 = r 2) (h : ∀ s : Int, 0 ≤ s → s < r 2 → rs r' s 2 = rs r s 2) : qInHand r' p = qInHand r p := by
  unfold qInHand
  rw [h2]
  exact qFind_congr _ _ (fun i q1 q2 => by show decide (rs r' i 2 = p) = decide (rs r i 2 = p); rw [h i q1 (by omega)])
theorem qOnSlot_congr {p : Int} (h2 : r' 2 = r 2) (h : ∀ s : Int, 0 ≤ s → s < r 2 → rs r' s 3 = rs r s 3) : qOnSlot r' p = qOnSlot r p := by
  unfold qOnSlot
  rw [h2]
  exact qFind_congr _ _ (fun i q1 q2 => by show decide (rs r' i 3 = p) = decide (rs r i 3 = p); rw [h i q1 (by omega)])
theorem DRp.congr {b : Nat} {p : Int} (h : DRp M b r p) (hr : ∀ k : Int, 0 ≤ k → k < 86 → rp r' p k = rp r p k) (hh : qInHand r' p = qInHand r p) (h3 : rp r p 3 ≤ 24) (h9 : 0 ≤ rp r p 9) (m0 : M' b = M b) (m1 : M' (b + 1) = M (b + 1)) (m2 : M' (b + 2) = M (b + 2)) (m3 : M' (b + 3) = M (b + 3)) : DRp M' b r' p := by
  obtain ⟨a1, a2, a3, a4, n, a5, a6⟩ := h
  refine ⟨fun k q1 q2 => ?_, ?_, fun k q1 q2 => ?_, fun k q1 q2 q3 => ?_, n, ⟨a5.1, fun k q1 q2 => ?_, fun k q1 q2 => ?_⟩, ?_⟩
  · rw [m0, hr k q1 (by omega)]; exact a1 k q1 q2
  · rw [m0, hh]; exact a2
  · rw [hr 3 (by omega) (by omega)] at q2
    rw [m1, m2, hr _ (by omega) (by omega), hr _ (by omega) (by omega)]; exact a3 k q1 q2
  · rw [hr 9 (by omega) (by omega)] at q3 ⊢
    rw [m3, hr _ (by omega) (by omega)]; exact a4 k q1 q2 q3
  · have := a5.1
    rw [hr _ (by omega) (by omega)]; exact a5.2.1 k q1 q2
  · rw [hr _ (by omega) (by omega)]; exact a5.2.2 k q1 q2
  · rw [m0, a6]
    have : ∀ m : Nat, m ≤ 8 → qPack (fun k => rp r p (10 + k)) m = qPack (fun k => rp r' p (10 + k)) m := by
      intro m
      induction m with
      | zero => intro _; rfl
      | succ m ih => intro hm; unfold qPack; rw [ih (by omega), hr (10 + (m : Int)) (by omega) (by omega)]
    exact this n (by have := a5.1; omega)
theorem DRs.congr {c : Nat} {s : Int} (h : DRs M c r s) (h1 : rs r s 1 ≤ 16) (hr : ∀ k : Int, 0 ≤ k → k < 21 → rs r' s k = rs r s k) (m0 : M' c = M c) (m1 : M' (c + 1) = M (c + 1)) : DRs M' c r' s := by
  obtain ⟨a1, a2, a3, a4, a5, a6⟩ := h
  refine ⟨?_, ?_, ?_, ?_, ?_, fun k q1 q2 => ?_⟩
  · rw [m0, hr 0 (by omega) (by omega)]; exact a1
  · rw [m0, hr 1 (by omega) (by omega)]; exact a2
  · rw [m0, hr 2 (by omega) (by omega)]; exact a3
  · rw [m0, hr 3 (by omega) (by omega)]; exact a4
  · rw [m0, hr 4 (by omega) (by omega)]; exact a5
  · rw [hr 1 (by omega) (by omega)] at q2
    rw [m1, hr _ (by omega) (by omega)]; exact a6 k q1 q2
theorem DRt.congr (h : DRt M d r K) (h5 : r' 5 = r 5) (h5' : r 5 ≤ 40) (hr : ∀ j : Nat, 1030 ≤ j → r' j = r j) (hK : K ≤ K') (m : ∀ x : Nat, d + 4 ≤ x → x ≤ d + 8 → M' x = M x) : DRt M' d r' K' := by
  obtain ⟨a1, a2, a3, a4⟩ := h
  have e0 := m (d + 4) (by omega) (by omega)
  have e1 := m (d + 4 + 1) (by omega) (by omega)
  have e2 := m (d + 4 + 2) (by omega) (by omega)
  have e3 := m (d + 4 + 3) (by omega) (by omega)
  have e4 := m (d + 4 + 4) (by omega) (by omega)
  refine ⟨by rw [e0]; exact a1, by rw [e0]; omega, by rw [e0, h5]; exact a3, fun b q1 q2 => ?_⟩
  rw [h5] at q2
  rw [e0, e1, e2, e3, e4, h5, hr _ (by omega), hr _ (by omega), hr _ (by omega), hr _ (by omega)]
  exact a4 b q1 q2
theorem DRd.congr (h : DRd M d r) (hr : ∀ j : Nat, j ≤ 4 → r' j = r j) (m : M' d = M d) : DRd M' d r' := by
  unfold DRd
  rw [m, hr 0 (by omega), hr 1 (by omega), hr 2 (by omega), hr 3 (by omega), hr 4 (by omega)]
  exact h
theorem DRL.congr (h : DRL M d r) (h0 : r' 0 = r 0) (hh : ∀ k : Int, qOnSlot r' k = qOnSlot r k) (m : M' (d + 3) = M (d + 3)) : DRL M' d r' := by
  intro k q1 q2
  rw [h0] at q2
  rw [m, hh]; exact h k q1 q2
/-- elsewhere than in the desk at d nothing is written -/
def gFr (d : Nat) (M M' : gMem) : Prop := ∀ x : Nat, x < d ∨ d + 65 ≤ x → M' x = M x
theorem gFr.rfl' : gFr d M M := fun _ _ => rfl
theorem gFr.trans {M'' : gMem} (h : gFr d M M') (h' : gFr d M' M'') : gFr d M M'' := fun x q => (h' x q).trans (h x q)
theorem gup_row {b j : Nat} {v : Int} {x : Nat} (h : x ≠ b) : gup M b j v x = M x := by
  funext i; exact gup_miss (fun q => h q.1)
theorem gFr.up {b j : Nat} {v : Int} (h : d ≤ b ∧ b < d + 65) : gFr d M (gup M b j v) := fun x q => gup_row (by omega)
end Upd2
