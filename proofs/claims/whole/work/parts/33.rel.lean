/-! PURE: the class's desk at d beside a row of the reference -/
/-- where the class keeps what the row has at k of a process -/
def cf (k : Int) : Nat := if k = 0 then 8 else if k = 1 then 9 else if k = 2 then 7 else if k = 3 then 4 else if k = 4 then 5 else if k = 5 then 6 else if k = 6 then 11 else if k = 7 then 12 else if k = 8 then 13 else 14
theorem cf_inj {k j : Int} (hk : 0 ≤ k ∧ k ≤ 9) (hj : 0 ≤ j ∧ j ≤ 9) (h : cf k = cf j) : k = j := by
  have hk' : k = 0 ∨ k = 1 ∨ k = 2 ∨ k = 3 ∨ k = 4 ∨ k = 5 ∨ k = 6 ∨ k = 7 ∨ k = 8 ∨ k = 9 := by omega
  have hj' : j = 0 ∨ j = 1 ∨ j = 2 ∨ j = 3 ∨ j = 4 ∨ j = 5 ∨ j = 6 ∨ j = 7 ∨ j = 8 ∨ j = 9 := by omega
  rcases hk' with rfl | rfl | rfl | rfl | rfl | rfl | rfl | rfl | rfl | rfl <;> rcases hj' with rfl | rfl | rfl | rfl | rfl | rfl | rfl | rfl | rfl | rfl <;> first | rfl | exact absurd h (by decide)
theorem cf_ne {k : Int} (hk : 0 ≤ k ∧ k ≤ 9) : cf k ≠ 10 ∧ cf k ≠ 3 := by
  have hk' : k = 0 ∨ k = 1 ∨ k = 2 ∨ k = 3 ∨ k = 4 ∨ k = 5 ∨ k = 6 ∨ k = 7 ∨ k = 8 ∨ k = 9 := by omega
  rcases hk' with rfl | rfl | rfl | rfl | rfl | rfl | rfl | rfl | rfl | rfl <;> exact ⟨by decide, by decide⟩
/-- letters in a number -/
def qPack (f : Int → Int) : Nat → Int
  | 0 => 0
  | n + 1 => qPack f n * 256 + f n
def qNameOK (r : gRow) (p : Int) (n : Nat) : Prop := (1 ≤ n ∧ n ≤ 8) ∧ (∀ k : Int, 0 ≤ k → k < n → 97 ≤ rp r p (10 + k) ∧ rp r p (10 + k) ≤ 122) ∧ ∀ k : Int, n ≤ k → k < 8 → rp r p (10 + k) = 0
def DRp (M : gMem) (b : Nat) (r : gRow) (p : Int) : Prop :=
  (∀ k : Int, 0 ≤ k → k ≤ 9 → M b (cf k) = rp r p k) ∧ M b 10 = qInHand r p ∧ (∀ k : Int, 0 ≤ k → k < rp r p 3 → M (b + 1) k.toNat = rp r p (18 + k) ∧ M (b + 2) k.toNat = rp r p (42 + k)) ∧
  (∀ k : Int, 0 ≤ k → k < 20 → k < rp r p 9 → M (b + 3) ((rp r p 9 - 1 - k).tmod 20).toNat = rp r p (66 + k)) ∧ ∃ n : Nat, qNameOK r p n ∧ M b 3 = qPack (fun k => rp r p (10 + k)) n
def DRs (M : gMem) (c : Nat) (r : gRow) (s : Int) : Prop :=
  M c 2 = rs r s 0 ∧ M c 1 = rs r s 1 ∧ M c 3 = rs r s 2 ∧ M c 4 = rs r s 3 ∧ M c 5 = rs r s 4 ∧ ∀ k : Int, 0 ≤ k → k < rs r s 1 → M (c + 1) k.toNat = rs r s (5 + k)
def DRt (M : gMem) (d : Nat) (r : gRow) (K : Int) : Prop :=
  0 ≤ M (d + 4) 4 ∧ M (d + 4) 4 ≤ K ∧ r 5 = gmin (M (d + 4) 4) 40 ∧ ∀ b : Int, 0 ≤ b → b < r 5 →
    M (d + 4 + 1) ((M (d + 4) 4 - 1 - b).tmod 40).toNat = r (1030 + 4 * (r 5 - 1 - b)).toNat ∧ M (d + 4 + 2) ((M (d + 4) 4 - 1 - b).tmod 40).toNat = r (1030 + 4 * (r 5 - 1 - b) + 1).toNat ∧
    M (d + 4 + 3) ((M (d + 4) 4 - 1 - b).tmod 40).toNat = r (1030 + 4 * (r 5 - 1 - b) + 2).toNat ∧ M (d + 4 + 4) ((M (d + 4) 4 - 1 - b).tmod 40).toNat = r (1030 + 4 * (r 5 - 1 - b) + 3).toNat
def DRd (M : gMem) (d : Nat) (r : gRow) : Prop := M d 4 = r 0 ∧ M d 5 = r 1 ∧ M d 6 = r 2 ∧ M d 7 = r 3 ∧ M d 8 = r 4
def DRP (M : gMem) (d : Nat) (r : gRow) : Prop := ∀ p : Int, 0 ≤ p → p < r 1 → DRp M (d + 1 + (8 + 4 * p.toNat)) r p
def DRS (M : gMem) (d : Nat) (r : gRow) : Prop := ∀ s : Int, 0 ≤ s → s < r 2 → DRs M (d + 2 + (39 + 2 * s.toNat)) r s
def DRL (M : gMem) (d : Nat) (r : gRow) : Prop := ∀ k : Int, 0 ≤ k → k < r 0 → M (d + 3) k.toNat = qOnSlot r k
def DR (M : gMem) (d : Nat) (r : gRow) (K : Int) : Prop := DRd M d r ∧ DRP M d r ∧ DRS M d r ∧ DRL M d r ∧ DRt M d r K
section Rel1
variable {M : gMem} {d : Nat} {r : gRow} {K : Int} {g : Nat → Nat}
theorem DRp.f {b : Nat} {p : Int} (h : DRp M b r p) : M b 8 = rp r p 0 ∧ M b 9 = rp r p 1 ∧ M b 7 = rp r p 2 ∧ M b 4 = rp r p 3 ∧ M b 5 = rp r p 4 ∧ M b 6 = rp r p 5 ∧ M b 11 = rp r p 6 ∧ M b 12 = rp r p 7 ∧ M b 13 = rp r p 8 ∧ M b 14 = rp r p 9 :=
  ⟨h.1 0 (by omega) (by omega), h.1 1 (by omega) (by omega), h.1 2 (by omega) (by omega), h.1 3 (by omega) (by omega), h.1 4 (by omega) (by omega), h.1 5 (by omega) (by omega), h.1 6 (by omega) (by omega), h.1 7 (by omega) (by omega), h.1 8 (by omega) (by omega), h.1 9 (by omega) (by omega)⟩
theorem c_procAt (hd : DRd M d r) (h1 : 1 ≤ r 1 ∧ r 1 ≤ 8) {p : Int} : fX0_procAt g d p M = some (if 0 ≤ p ∧ p < r 1 then d + 1 + (8 + 4 * p.toNat) else 0) := by
  unfold fX0_procAt
  rw [hd.2.1]
  by_cases h : 0 ≤ p ∧ p < r 1
  · simp (disch := omega) only [if_pos, if_neg]
  · by_cases hp : p < 0
    · rw [if_pos hp, if_neg h]
    · rw [if_neg hp, if_pos (by omega), if_neg h]
theorem c_procAt_in (hd : DRd M d r) (h1 : 1 ≤ r 1 ∧ r 1 ≤ 8) {p : Int} (hp : 0 ≤ p ∧ p < r 1) : fX0_procAt g d p M = some (d + 1 + (8 + 4 * p.toNat)) := by rw [c_procAt hd h1, if_pos hp]
theorem c_pileAt (hd : DRd M d r) (h1 : 0 ≤ r 2 ∧ r 2 ≤ 12) {s : Int} : fX0_pileAt g d s M = some (if 0 ≤ s ∧ s < r 2 then d + 2 + (39 + 2 * s.toNat) else 0) := by
  unfold fX0_pileAt
  rw [hd.2.2.1]
  by_cases h : 0 ≤ s ∧ s < r 2
  · simp (disch := omega) only [if_pos, if_neg]
  · by_cases hp : s < 0
    · rw [if_pos hp, if_neg h]
    · rw [if_neg hp, if_pos (by omega), if_neg h]
theorem c_lyingOn (hL : DRL M d r) (h0 : r 0 ≤ 4) {k : Int} (hk : 0 ≤ k ∧ k < r 0) : fX0_lyingOn g d k M = some (qOnSlot r k) := by
  unfold fX0_lyingOn
  simp (disch := omega) only [if_pos, if_neg]
  rw [hL k hk.1 hk.2]
theorem c_kindAt {b : Nat} {p : Int} (h : DRp M b r p) (h3 : rp r p 3 ≤ 24) {k : Int} : fX4_kindAt g b k M = some (if 0 ≤ k ∧ k < rp r p 3 then rp r p (18 + k) else -1) := by
  unfold fX4_kindAt
  rw [h.f.2.2.2.1]
  by_cases hk : 0 ≤ k ∧ k < rp r p 3
  · simp (disch := omega) only [if_pos, if_neg]
    rw [(h.2.2.1 k hk.1 hk.2).1]
  · by_cases hp : k < 0
    · rw [if_pos hp, if_neg hk]
    · rw [if_neg hp, if_pos (by omega), if_neg hk]
theorem c_operandAt {b : Nat} {p : Int} (h : DRp M b r p) (h3 : rp r p 3 ≤ 24) {k : Int} : fX4_operandAt g b k M = some (if 0 ≤ k ∧ k < rp r p 3 then rp r p (42 + k) else 0) := by
  unfold fX4_operandAt
  rw [h.f.2.2.2.1]
  by_cases hk : 0 ≤ k ∧ k < rp r p 3
  · simp (disch := omega) only [if_pos, if_neg]
    rw [(h.2.2.1 k hk.1 hk.2).2]
  · by_cases hp : k < 0
    · rw [if_pos hp, if_neg hk]
    · rw [if_neg hp, if_pos (by omega), if_neg hk]
theorem c_kindAt_in {b : Nat} {p : Int} (h : DRp M b r p) (h3 : rp r p 3 ≤ 24) {k : Int} (hk : 0 ≤ k ∧ k < rp r p 3) : fX4_kindAt g b k M = some (rp r p (18 + k)) := by rw [c_kindAt h h3, if_pos hk]
theorem c_kindAt_out {b : Nat} {p : Int} (h : DRp M b r p) (h3 : rp r p 3 ≤ 24) {k : Int} (hk : ¬ (0 ≤ k ∧ k < rp r p 3)) : fX4_kindAt g b k M = some (-1) := by rw [c_kindAt h h3, if_neg hk]
theorem c_operandAt_in {b : Nat} {p : Int} (h : DRp M b r p) (h3 : rp r p 3 ≤ 24) {k : Int} (hk : 0 ≤ k ∧ k < rp r p 3) : fX4_operandAt g b k M = some (rp r p (42 + k)) := by rw [c_operandAt h h3, if_pos hk]
theorem c_operandAt_out {b : Nat} {p : Int} (h : DRp M b r p) (h3 : rp r p 3 ≤ 24) {k : Int} (hk : ¬ (0 ≤ k ∧ k < rp r p 3)) : fX4_operandAt g b k M = some 0 := by rw [c_operandAt h h3, if_neg hk]
theorem c_pileAt_in (hd : DRd M d r) (h1 : 0 ≤ r 2 ∧ r 2 ≤ 12) {s : Int} (hs : 0 ≤ s ∧ s < r 2) : fX0_pileAt g d s M = some (d + 2 + (39 + 2 * s.toNat)) := by rw [c_pileAt hd h1, if_pos hs]
theorem c_pileAt_out (hd : DRd M d r) (h1 : 0 ≤ r 2 ∧ r 2 ≤ 12) {s : Int} (hs : ¬ (0 ≤ s ∧ s < r 2)) : fX0_pileAt g d s M = some 0 := by rw [c_pileAt hd h1, if_neg hs]
theorem gand1 (x : Int) : gand x 1 = 0 ∨ gand x 1 = 1 := by
  unfold gand
  obtain ⟨j, hj, e⟩ := pk_andE (gi x) (m := gi 1) 1 (by decide)
  rw [e]
  have hj' : j = 0 ∨ j = 1 := by omega
  rcases hj' with rfl | rfl
  · exact Or.inl (by decide)
  · exact Or.inr (by decide)
theorem c_mayUse {b : Nat} {p : Int} (h : DRp M b r p) {k : Int} : fX4_mayUse g b k M = some (if gand (gshr (rp r p 5) k) 1 = 1 then 1 else 0) := by
  unfold fX4_mayUse
  rw [h.f.2.2.2.2.2.1]
  rcases gand1 (gshr (rp r p 5) k) with q | q
  · rw [if_pos q, if_neg (by omega)]
  · rw [if_neg (by omega), if_pos q]
theorem c_isMove {c : Int} : fX6_isMove g c = some (qB (8 ≤ c ∧ c ≤ 10)) := by
  unfold fX6_isMove
  by_cases h : 8 ≤ c ∧ c ≤ 10
  · rw [qB_t h]
    by_cases h8 : c = 8
    · rw [if_pos h8]
    · rw [if_neg h8]
      by_cases h9 : c = 9
      · rw [if_pos h9]
      · rw [if_neg h9, if_pos (by omega)]
  · rw [qB_f h, if_neg (by omega), if_neg (by omega), if_neg (by omega)]
/-- faults of a command that moves -/
def qMF (r : gRow) (p c v : Int) : Int := if (¬ c = 9) ∧ qInHand r p = -1 then 1 else if ¬ gand (gshr (rp r p 5) v) 1 = 1 then 2 else if c = 9 ∧ ¬ qInHand r p = -1 then 3 else 0
theorem c_moveFault {b : Nat} {p : Int} (h : DRp M b r p) {c v : Int} : fX6_moveFault g b c v M = some (qMF r p c v) := by
  unfold fX6_moveFault fX6_moveFault_16 qMF
  simp only [c_mayUse h, Option.bind_some, h.2.1]
  by_cases h9 : c = 9 <;> by_cases hq : qInHand r p = -1 <;> by_cases hm : gand (gshr (rp r p 5) v) 1 = 1 <;> simp [h9, hq, hm]
theorem qMF_eq {p c v : Int} (h : 8 ≤ c ∧ c ≤ 10) : qFaultC r p c v (qInHand r p) = qMF r p c v := by
  have hn : qNeed c = 0 := by unfold qNeed; rw [if_neg (by omega), if_neg (by omega)]
  have ht : qTail r c (qInHand r p) = 0 := by unfold qTail; rw [if_neg (by omega), if_neg (by omega), if_neg (by omega)]
  have h11 : ¬ c = 11 := by omega
  have h13 : ¬ c = 13 := by omega
  unfold qFaultC qMF
  rw [ht]
  by_cases h9 : c = 9 <;> by_cases hq : qInHand r p = -1 <;> by_cases hm : gand (gshr (rp r p 5) v) 1 = 1 <;> simp [h9, hq, hm, h11, h13, h.1, h.2]
end Rel1
