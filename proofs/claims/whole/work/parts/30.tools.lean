/-! PURE: the reference's row of numbers, and what is read off it -/
theorem gwi_eq {x : Int} (h1 : -2147483648 ≤ x) (h2 : x < 2147483648) : gwi x = x := gwi_id ⟨h1, h2⟩
theorem gwl_eq {x : Int} (h1 : -9223372036854775808 ≤ x) (h2 : x < 9223372036854775808) : gwl x = x := gwl_id ⟨h1, h2⟩
theorem gst_eq {α β : Type} (x : α) (f : α → Option β) : gst x f = f x := rfl
theorem gup_hit {M : gMem} {a k b j : Nat} {v : Int} (h1 : b = a) (h2 : j = k) : gup M a k v b j = v := by unfold gup; rw [if_pos ⟨h1, h2⟩]
theorem gup_miss {M : gMem} {a k b j : Nat} {v : Int} (h : ¬ (b = a ∧ j = k)) : gup M a k v b j = M b j := by unfold gup; rw [if_neg h]
theorem gcp_hit {M : gMem} {sa sp da dp n b j : Nat} (h : b = da ∧ dp ≤ j ∧ j < dp + n) : gcp M sa sp da dp n b j = M sa (sp + (j - dp)) := by unfold gcp; rw [if_pos h]
theorem gcp_miss {M : gMem} {sa sp da dp n b j : Nat} (h : ¬ (b = da ∧ dp ≤ j ∧ j < dp + n)) : gcp M sa sp da dp n b j = M b j := by unfold gcp; rw [if_neg h]
abbrev gRow : Type := Nat → Int
def rup (r : gRow) (i : Int) (v : Int) : gRow := fun j => if j = i.toNat then v else r j
def rp (r : gRow) (p k : Int) : Int := r (6 + 86 * p + k).toNat
def rs (r : gRow) (s k : Int) : Int := r (694 + 21 * s + k).toNat
def rsp (r : gRow) (p k v : Int) : gRow := rup r (6 + 86 * p + k) v
def rss (r : gRow) (s k v : Int) : gRow := rup r (694 + 21 * s + k) v
/-- the memory with another row at the array a -/
def mrow (M : gMem) (a : Nat) (r : gRow) : gMem := fun x j => if x = a then r j else M x j
theorem mrow_self (M : gMem) (a : Nat) : mrow M a (M a) = M := by
  funext x j; unfold mrow; by_cases h : x = a
  · rw [if_pos h, h]
  · rw [if_neg h]
theorem mrow_at (M : gMem) (a : Nat) (r : gRow) : mrow M a r a = r := by funext j; unfold mrow; rw [if_pos rfl]
theorem mrow_ne {M : gMem} {a b : Nat} {r : gRow} (h : ¬ b = a) : mrow M a r b = M b := by funext j; unfold mrow; rw [if_neg h]
theorem mrow_mrow (M : gMem) (a : Nat) (r r' : gRow) : mrow (mrow M a r) a r' = mrow M a r' := by
  funext x j; unfold mrow; by_cases h : x = a
  · rw [if_pos h, if_pos h]
  · rw [if_neg h, if_neg h, if_neg h]
theorem mrow_up (M : gMem) (a : Nat) (r : gRow) (i v : Int) : gup (mrow M a r) a i.toNat v = mrow M a (rup r i v) := by
  funext x j; unfold gup mrow rup
  by_cases h : x = a
  · by_cases h2 : j = i.toNat
    · rw [if_pos ⟨h, h2⟩, if_pos h, if_pos h2]
    · rw [if_neg (fun q => h2 q.2), if_pos h, if_pos h, if_neg h2]
  · rw [if_neg (fun q => h q.1), if_neg h, if_neg h]
theorem mrow_up_ne {M : gMem} {a b k : Nat} {r : gRow} {v : Int} (h : ¬ b = a) : gup (mrow M a r) b k v = mrow (gup M b k v) a r := by
  funext x j; unfold gup mrow
  by_cases h1 : x = a
  · rw [if_neg (fun q => h (q.1.symm.trans h1)), if_pos h1, if_pos h1]
  · rw [if_neg h1, if_neg h1]
/-- the first place from s on, among n, where P holds; or none -/
def qFind (P : Int → Bool) : Nat → Int → Int
  | 0, _ => -1
  | n + 1, s => if P s = true then s else qFind P n (s + 1)
def qCnt (P : Int → Bool) : Nat → Int → Int
  | 0, _ => 0
  | n + 1, s => (if P s = true then 1 else 0) + qCnt P n (s + 1)
def qSum (f : Int → Int) : Nat → Int → Int
  | 0, _ => 0
  | n + 1, s => f s + qSum f n (s + 1)
def qInHand (r : gRow) (p : Int) : Int := qFind (fun s => decide (rs r s 2 = p)) (r 2).toNat 0
def qOnSlot (r : gRow) (k : Int) : Int := qFind (fun s => decide (rs r s 3 = k)) (r 2).toNat 0
/-- a row as the systems keep it; K bounds the counters -/
def qOKp (r : gRow) (K p : Int) : Prop :=
  (0 ≤ rp r p 0 ∧ rp r p 0 ≤ 2) ∧ (0 ≤ rp r p 1 ∧ rp r p 1 ≤ 6) ∧ (0 ≤ rp r p 2 ∧ rp r p 2 ≤ 24) ∧ (0 ≤ rp r p 3 ∧ rp r p 3 ≤ 24) ∧ (1 ≤ rp r p 4 ∧ rp r p 4 ≤ 9) ∧ (0 ≤ rp r p 5 ∧ rp r p 5 ≤ 15) ∧
  (0 ≤ rp r p 6 ∧ rp r p 6 ≤ K) ∧ (0 ≤ rp r p 7 ∧ rp r p 7 ≤ K) ∧ (0 ≤ rp r p 8 ∧ rp r p 8 ≤ K) ∧ (0 ≤ rp r p 9 ∧ rp r p 9 ≤ K) ∧
  (∀ k : Int, 0 ≤ k → k < rp r p 3 → (0 ≤ rp r p (18 + k) ∧ rp r p (18 + k) ≤ 13) ∧ (-999999 ≤ rp r p (42 + k) ∧ rp r p (42 + k) ≤ 999999) ∧ (8 ≤ rp r p (18 + k) → rp r p (18 + k) ≤ 10 → 0 ≤ rp r p (42 + k) ∧ rp r p (42 + k) < r 0) ∧ (11 ≤ rp r p (18 + k) → rp r p (18 + k) ≤ 12 → 0 ≤ rp r p (42 + k) ∧ rp r p (42 + k) ≤ 24))
def qOKs (r : gRow) (K s : Int) : Prop :=
  (1 ≤ rs r s 0 ∧ rs r s 0 ≤ 16) ∧ (0 ≤ rs r s 1 ∧ rs r s 1 ≤ rs r s 0) ∧ (-1 ≤ rs r s 2 ∧ rs r s 2 < r 1) ∧ (-1 ≤ rs r s 3 ∧ rs r s 3 < r 0) ∧ (rs r s 2 = -1 ↔ ¬ rs r s 3 = -1) ∧ (0 ≤ rs r s 4 ∧ rs r s 4 ≤ K) ∧
  (∀ k : Int, 0 ≤ k → k < rs r s 1 → -999999 ≤ rs r s (5 + k) ∧ rs r s (5 + k) ≤ 999999) ∧
  (∀ s' : Int, 0 ≤ s' → s' < r 2 → s' ≠ s → (rs r s 2 = -1 ∨ rs r s' 2 ≠ rs r s 2) ∧ (rs r s 3 = -1 ∨ rs r s' 3 ≠ rs r s 3))
def qOK (r : gRow) (K : Int) : Prop :=
  (1 ≤ r 0 ∧ r 0 ≤ 4) ∧ (1 ≤ r 1 ∧ r 1 ≤ 8) ∧ (0 ≤ r 2 ∧ r 2 ≤ 12) ∧ (0 ≤ r 3 ∧ r 3 ≤ K) ∧ (-1 ≤ r 4 ∧ r 4 < r 1) ∧ (0 ≤ r 5 ∧ r 5 ≤ 40) ∧ (∀ p : Int, 0 ≤ p → p < r 1 → qOKp r K p) ∧ (∀ s : Int, 0 ≤ s → s < r 2 → qOKs r K s)
theorem qFind_spec (P : Int → Bool) : ∀ (n : Nat) (s : Int), (qFind P n s = -1 ∧ ∀ i : Int, s ≤ i → i < s + n → P i = false) ∨ (s ≤ qFind P n s ∧ qFind P n s < s + n ∧ P (qFind P n s) = true ∧ ∀ i : Int, s ≤ i → i < qFind P n s → P i = false) := by
  intro n
  induction n with
  | zero => intro s; exact Or.inl ⟨rfl, fun i h1 h2 => by omega⟩
  | succ n ih =>
    intro s
    unfold qFind
    by_cases h : P s = true
    · rw [if_pos h]
      exact Or.inr ⟨Int.le_refl s, by omega, h, fun i h1 h2 => by omega⟩
    · rw [if_neg h]
      have hs : P s = false := by simpa using h
      rcases ih (s + 1) with ⟨h1, h2⟩ | ⟨h1, h2, h3, h4⟩
      · refine Or.inl ⟨h1, fun i q1 q2 => ?_⟩
        by_cases hi : i = s
        · rw [hi]; exact hs
        · exact h2 i (by omega) (by omega)
      · refine Or.inr ⟨by omega, by omega, h3, fun i q1 q2 => ?_⟩
        by_cases hi : i = s
        · rw [hi]; exact hs
        · exact h4 i (by omega) q2
/-- found: any place that is the only one -/
theorem qFind_one {P : Int → Bool} {n : Nat} {i : Int} (h0 : 0 ≤ i) (hn : i < n) (hi : P i = true) (hu : ∀ j : Int, 0 ≤ j → j < n → j ≠ i → P j = false) : qFind P n 0 = i := by
  rcases qFind_spec P n 0 with ⟨h1, h2⟩ | ⟨h1, h2, h3, h4⟩
  · have := h2 i h0 (by omega)
    rw [hi] at this; cases this
  · by_cases he : qFind P n 0 = i
    · exact he
    · have := hu _ h1 (by omega) he
      rw [h3] at this; cases this
theorem qFind_none {P : Int → Bool} {n : Nat} (hu : ∀ j : Int, 0 ≤ j → j < n → P j = false) : qFind P n 0 = -1 := by
  rcases qFind_spec P n 0 with ⟨h1, h2⟩ | ⟨h1, h2, h3, h4⟩
  · exact h1
  · have := hu _ h1 (by omega)
    rw [h3] at this; cases this
theorem rup_hit {r : gRow} {i : Int} {v : Int} {j : Nat} (h : j = i.toNat) : rup r i v j = v := if_pos h
theorem rup_miss {r : gRow} {i : Int} {v : Int} {j : Nat} (h : ¬ j = i.toNat) : rup r i v j = r j := if_neg h
