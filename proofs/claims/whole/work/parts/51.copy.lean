/-! PURE: a desk copied onto another -/
def cfs (a0 a1 : Nat) : List Nat → gMem → gMem
  | [], M => M
  | j :: l, M => cfs a0 a1 l (gup M a0 j (M a1 j))
theorem cfs_off {a0 a1 x : Nat} (h : x ≠ a0) : ∀ (l : List Nat) (M : gMem), cfs a0 a1 l M x = M x := by
  intro l
  induction l with
  | nil => intro M; rfl
  | cons j l ih => intro M; unfold cfs; rw [ih, gup_row h]
theorem cfs_at {a0 a1 : Nat} (h : a1 ≠ a0) : ∀ (l : List Nat) (M : gMem) (i : Nat), cfs a0 a1 l M a0 i = if i ∈ l then M a1 i else M a0 i := by
  intro l
  induction l with
  | nil => intro M i; simp [cfs]
  | cons j l ih =>
    intro M i
    unfold cfs
    rw [ih, gup_row h]
    by_cases hl : i ∈ l
    · rw [if_pos hl, if_pos (List.mem_cons_of_mem _ hl)]
    · rw [if_neg hl, gup_at]
      by_cases e : i = j
      · rw [if_pos e, if_pos (by rw [e]; exact List.mem_cons_self), e]
      · rw [if_neg e, if_neg (by simp [e, hl])]
theorem gcp_row {M : gMem} {sa sp da dp n x : Nat} (h : x ≠ da) : gcp M sa sp da dp n x = M x := by
  funext j
  exact gcp_miss (fun z => h z.1)
theorem gcp_at {M : gMem} {sa da n j : Nat} (h : j < n) : gcp M sa 0 da 0 n da j = M sa j := by
  rw [gcp_hit ⟨rfl, by omega, by omega⟩]
  simp
section Copy
variable {M : gMem} {d d' : Nat} {r : gRow} {K : Int} {g : Nat → Nat}
def cpP (M M' : gMem) (b b' : Nat) : Prop := (∀ j : Nat, 3 ≤ j → j ≤ 14 → M' b' j = M b j) ∧ (∀ j : Nat, j < 24 → M' (b' + 1) j = M (b + 1) j) ∧ (∀ j : Nat, j < 24 → M' (b' + 2) j = M (b + 2) j) ∧ (∀ j : Nat, j < 20 → M' (b' + 3) j = M (b + 3) j)
def cpS (M M' : gMem) (b b' : Nat) : Prop := (∀ j : Nat, 1 ≤ j → j ≤ 5 → M' b' j = M b j) ∧ (∀ j : Nat, j < 16 → M' (b' + 1) j = M (b + 1) j)
def cpL (M M' : gMem) (b b' : Nat) : Prop := M' b' 4 = M b 4 ∧ (∀ j : Nat, j < 40 → M' (b' + 1) j = M (b + 1) j) ∧ (∀ j : Nat, j < 40 → M' (b' + 2) j = M (b + 2) j) ∧ (∀ j : Nat, j < 40 → M' (b' + 3) j = M (b + 3) j) ∧ (∀ j : Nat, j < 40 → M' (b' + 4) j = M (b + 4) j)
theorem c_copyP {b b' : Nat} (h : b + 3 < b' ∨ b' + 3 < b) : ∃ M', fX4_copyFrom g b' b M = some M' ∧ cpP M M' b b' ∧ ∀ x : Nat, x < b' ∨ b' + 3 < x → M' x = M x := by
  refine ⟨cfs b' b [3, 4, 5, 6, 7, 8, 9, 10, 11, 12, 13, 14] (gcp (gcp (gcp M (b + 1) 0 (b' + 1) 0 24) (b + 2) 0 (b' + 2) 0 24) (b + 3) 0 (b' + 3) 0 20), rfl, ⟨fun j q1 q2 => ?_, fun j q => ?_, fun j q => ?_, fun j q => ?_⟩, fun x q => ?_⟩
  · have hj : j ∈ [3, 4, 5, 6, 7, 8, 9, 10, 11, 12, 13, 14] := by
      have : j = 3 ∨ j = 4 ∨ j = 5 ∨ j = 6 ∨ j = 7 ∨ j = 8 ∨ j = 9 ∨ j = 10 ∨ j = 11 ∨ j = 12 ∨ j = 13 ∨ j = 14 := by omega
      simp; omega
    rw [cfs_at (by omega), if_pos hj, gcp_row (by omega), gcp_row (by omega), gcp_row (by omega)]
  · rw [cfs_off (by omega), gcp_row (by omega), gcp_row (by omega), gcp_at q]
  · rw [cfs_off (by omega), gcp_row (by omega), gcp_at q, gcp_row (by omega)]
  · rw [cfs_off (by omega), gcp_at q, gcp_row (by omega), gcp_row (by omega)]
  · rw [cfs_off (by omega), gcp_row (by omega), gcp_row (by omega), gcp_row (by omega)]
theorem c_copyS {b b' : Nat} (h : b + 1 < b' ∨ b' + 1 < b) : ∃ M', fX3_copyFrom g b' b M = some M' ∧ cpS M M' b b' ∧ ∀ x : Nat, x < b' ∨ b' + 1 < x → M' x = M x := by
  refine ⟨cfs b' b [1, 2, 3, 4, 5] (gcp M (b + 1) 0 (b' + 1) 0 16), rfl, ⟨fun j q1 q2 => ?_, fun j q => ?_⟩, fun x q => ?_⟩
  · have hj : j ∈ [1, 2, 3, 4, 5] := by simp; omega
    rw [cfs_at (by omega), if_pos hj, gcp_row (by omega)]
  · rw [cfs_off (by omega), gcp_at q]
  · rw [cfs_off (by omega), gcp_row (by omega)]
theorem c_copyL {b b' : Nat} (h : b + 4 < b' ∨ b' + 4 < b) : ∃ M', fX2_copyFrom g b' b M = some M' ∧ cpL M M' b b' ∧ ∀ x : Nat, x < b' ∨ b' + 4 < x → M' x = M x := by
  refine ⟨cfs b' b [4] (gcp (gcp (gcp (gcp M (b + 1) 0 (b' + 1) 0 40) (b + 2) 0 (b' + 2) 0 40) (b + 3) 0 (b' + 3) 0 40) (b + 4) 0 (b' + 4) 0 40), rfl, ⟨?_, fun j q => ?_, fun j q => ?_, fun j q => ?_, fun j q => ?_⟩, fun x q => ?_⟩
  · rw [cfs_at (by omega), if_pos (by simp), gcp_row (by omega), gcp_row (by omega), gcp_row (by omega), gcp_row (by omega)]
  · rw [cfs_off (by omega), gcp_row (by omega), gcp_row (by omega), gcp_row (by omega), gcp_at q]
  · rw [cfs_off (by omega), gcp_row (by omega), gcp_row (by omega), gcp_at q, gcp_row (by omega)]
  · rw [cfs_off (by omega), gcp_row (by omega), gcp_at q, gcp_row (by omega), gcp_row (by omega)]
  · rw [cfs_off (by omega), gcp_at q, gcp_row (by omega), gcp_row (by omega), gcp_row (by omega)]
  · rw [cfs_off (by omega), gcp_row (by omega), gcp_row (by omega), gcp_row (by omega), gcp_row (by omega)]
theorem c_copyP_lp (hd : d + 65 ≤ d' ∨ d' + 65 ≤ d) : ∀ (n : Nat) (x : Int) (M : gMem) (fu : Nat), 0 ≤ x → x + n = 8 → n < fu → ∃ M', fX0_copyFrom_2 g fu d' d x M = fX0_copyFrom_41 g d' d M' ∧ (∀ q : Int, x ≤ q → q < 8 → cpP M M' (d + 1 + (8 + 4 * q.toNat)) (d' + 1 + (8 + 4 * q.toNat))) ∧ ∀ y : Nat, ¬ (d' + 9 + 4 * x.toNat ≤ y ∧ y ≤ d' + 40) → M' y = M y := by
  intro n
  induction n with
  | zero =>
    intro x M fu h0 hs hf
    obtain ⟨fu, rfl⟩ := fuS hf
    refine ⟨M, ?_, fun q q1 q2 => by omega, fun y _ => rfl⟩
    unfold fX0_copyFrom_2
    rw [if_pos (by omega)]
  | succ n ih =>
    intro x M fu h0 hs hf
    obtain ⟨fu, rfl⟩ := fuS hf
    obtain ⟨M1, e1, C1, F1⟩ := c_copyP (g := g) (M := M) (b := d + 1 + (8 + 4 * x.toNat)) (b' := d' + 1 + (8 + 4 * x.toNat)) (by omega)
    obtain ⟨M2, e2, C2, F2⟩ := ih (x + 1) M1 fu (by omega) (by omega) (by omega)
    refine ⟨M2, ?_, fun q q1 q2 => ?_, fun y hy => ?_⟩
    · unfold fX0_copyFrom_2
      rw [if_neg (by omega), if_neg (by omega), if_pos (by omega), if_pos (by omega), e1, Option.bind_some, gst_eq, gwi_eq (by omega) (by omega), e2]
    · by_cases e : q = x
      · rw [e]
        unfold cpP
        rw [F2 _ (by omega), F2 _ (by omega), F2 _ (by omega), F2 _ (by omega)]
        exact C1
      · have := C2 q (by omega) q2
        unfold cpP at this ⊢
        rw [← F1 (d + 1 + (8 + 4 * q.toNat)) (by omega), ← F1 (d + 1 + (8 + 4 * q.toNat) + 1) (by omega), ← F1 (d + 1 + (8 + 4 * q.toNat) + 2) (by omega), ← F1 (d + 1 + (8 + 4 * q.toNat) + 3) (by omega)]
        exact this
    · rw [F2 y (by omega), F1 y (by omega)]
theorem c_copyS_lp (hd : d + 65 ≤ d' ∨ d' + 65 ≤ d) : ∀ (n : Nat) (x : Int) (M : gMem) (fu : Nat), 0 ≤ x → x + n = 12 → n < fu → ∃ M', fX0_copyFrom_43 g fu d' d x M = fX0_copyFrom_82 g d' d M' ∧ (∀ q : Int, x ≤ q → q < 12 → cpS M M' (d + 2 + (39 + 2 * q.toNat)) (d' + 2 + (39 + 2 * q.toNat))) ∧ ∀ y : Nat, ¬ (d' + 41 + 2 * x.toNat ≤ y ∧ y ≤ d' + 64) → M' y = M y := by
  intro n
  induction n with
  | zero =>
    intro x M fu h0 hs hf
    obtain ⟨fu, rfl⟩ := fuS hf
    refine ⟨M, ?_, fun q q1 q2 => by omega, fun y _ => rfl⟩
    unfold fX0_copyFrom_43
    rw [if_pos (by omega)]
  | succ n ih =>
    intro x M fu h0 hs hf
    obtain ⟨fu, rfl⟩ := fuS hf
    obtain ⟨M1, e1, C1, F1⟩ := c_copyS (g := g) (M := M) (b := d + 2 + (39 + 2 * x.toNat)) (b' := d' + 2 + (39 + 2 * x.toNat)) (by omega)
    obtain ⟨M2, e2, C2, F2⟩ := ih (x + 1) M1 fu (by omega) (by omega) (by omega)
    refine ⟨M2, ?_, fun q q1 q2 => ?_, fun y hy => ?_⟩
    · unfold fX0_copyFrom_43
      rw [if_neg (by omega), if_neg (by omega), if_pos (by omega), if_pos (by omega), e1, Option.bind_some, gst_eq, gwi_eq (by omega) (by omega), e2]
    · by_cases e : q = x
      · rw [e]
        unfold cpS
        rw [F2 _ (by omega), F2 _ (by omega)]
        exact C1
      · have := C2 q (by omega) q2
        unfold cpS at this ⊢
        rw [← F1 (d + 2 + (39 + 2 * q.toNat)) (by omega), ← F1 (d + 2 + (39 + 2 * q.toNat) + 1) (by omega)]
        exact this
    · rw [F2 y (by omega), F1 y (by omega)]
end Copy
