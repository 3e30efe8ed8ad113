/-! The layout: objects in the order in which they are made; a kind (below 16: class number + 1; else 16 * (length + 1) + kind of array), and the references that each keeps, as distances -/
def gsL : List Nat := [0, 8, 1, 148, 213, 80, 3, 656, 656, 656, 656, 5, 400, 400, 336, 5, 400, 400, 336, 5, 400, 400, 336, 5, 400, 400, 336, 5, 400, 400, 336, 5, 400, 400, 336, 5, 400, 400, 336, 5, 400, 400, 336, 4, 272, 4, 272, 4, 272, 4, 272, 4, 272, 4, 272, 4, 272, 4, 272, 4, 272, 4, 272, 4, 272, 4, 272, 1, 148, 213, 80, 3, 656, 656, 656, 656, 5, 400, 400, 336, 5, 400, 400, 336, 5, 400, 400, 336, 5, 400, 400, 336, 5, 400, 400, 336, 5, 400, 400, 336, 5, 400, 400, 336, 5, 400, 400, 336, 4, 272, 4, 272, 4, 272, 4, 272, 4, 272, 4, 272, 4, 272, 4, 272, 4, 272, 4, 272, 4, 272, 4, 272, 2, 150, 1, 148, 213, 80, 3, 656, 656, 656, 656, 5, 400, 400, 336, 5, 400, 400, 336, 5, 400, 400, 336, 5, 400, 400, 336, 5, 400, 400, 336, 5, 400, 400, 336, 5, 400, 400, 336, 5, 400, 400, 336, 4, 272, 4, 272, 4, 272, 4, 272, 4, 272, 4, 272, 4, 272, 4, 272, 4, 272, 4, 272, 4, 272, 4, 272, 1, 148, 213, 80, 3, 656, 656, 656, 656, 5, 400, 400, 336, 5, 400, 400, 336, 5, 400, 400, 336, 5, 400, 400, 336, 5, 400, 400, 336, 5, 400, 400, 336, 5, 400, 400, 336, 5, 400, 400, 336, 4, 272, 4, 272, 4, 272, 4, 272, 4, 272, 4, 272, 4, 272, 4, 272, 4, 272, 4, 272, 4, 272, 4, 272, 1, 148, 213, 80, 3, 656, 656, 656, 656, 5, 400, 400, 336, 5, 400, 400, 336, 5, 400, 400, 336, 5, 400, 400, 336, 5, 400, 400, 336, 5, 400, 400, 336, 5, 400, 400, 336, 5, 400, 400, 336, 4, 272, 4, 272, 4, 272, 4, 272, 4, 272, 4, 272, 4, 272, 4, 272, 4, 272, 4, 272, 4, 272, 4, 272, 1, 148, 213, 80, 3, 656, 656, 656, 656, 5, 400, 400, 336, 5, 400, 400, 336, 5, 400, 400, 336, 5, 400, 400, 336, 5, 400, 400, 336, 5, 400, 400, 336, 5, 400, 400, 336, 5, 400, 400, 336, 4, 272, 4, 272, 4, 272, 4, 272, 4, 272, 4, 272, 4, 272, 4, 272, 4, 272, 4, 272, 4, 272, 4, 272, 1, 148, 213, 80, 3, 656, 656, 656, 656, 5, 400, 400, 336, 5, 400, 400, 336, 5, 400, 400, 336, 5, 400, 400, 336, 5, 400, 400, 336, 5, 400, 400, 336, 5, 400, 400, 336, 5, 400, 400, 336, 4, 272, 4, 272, 4, 272, 4, 272, 4, 272, 4, 272, 4, 272, 4, 272, 4, 272, 4, 272, 4, 272, 4, 272, 1, 148, 213, 80, 3, 656, 656, 656, 656, 5, 400, 400, 336, 5, 400, 400, 336, 5, 400, 400, 336, 5, 400, 400, 336, 5, 400, 400, 336, 5, 400, 400, 336, 5, 400, 400, 336, 5, 400, 400, 336, 4, 272, 4, 272, 4, 272, 4, 272, 4, 272, 4, 272, 4, 272, 4, 272, 4, 272, 4, 272, 4, 272, 4, 272, 1, 148, 213, 80, 3, 656, 656, 656, 656, 5, 400, 400, 336, 5, 400, 400, 336, 5, 400, 400, 336, 5, 400, 400, 336, 5, 400, 400, 336, 5, 400, 400, 336, 5, 400, 400, 336, 5, 400, 400, 336, 4, 272, 4, 272, 4, 272, 4, 272, 4, 272, 4, 272, 4, 272, 4, 272, 4, 272, 4, 272, 4, 272, 4, 272, 1, 148, 213, 80, 3, 656, 656, 656, 656, 5, 400, 400, 336, 5, 400, 400, 336, 5, 400, 400, 336, 5, 400, 400, 336, 5, 400, 400, 336, 5, 400, 400, 336, 5, 400, 400, 336, 5, 400, 400, 336, 4, 272, 4, 272, 4, 272, 4, 272, 4, 272, 4, 272, 4, 272, 4, 272, 4, 272, 4, 272, 4, 272, 4, 272, 54, 1, 148, 213, 80, 3, 656, 656, 656, 656, 5, 400, 400, 336, 5, 400, 400, 336, 5, 400, 400, 336, 5, 400, 400, 336, 5, 400, 400, 336, 5, 400, 400, 336, 5, 400, 400, 336, 5, 400, 400, 336, 4, 272, 4, 272, 4, 272, 4, 272, 4, 272, 4, 272, 4, 272, 4, 272, 4, 272, 4, 272, 4, 272, 4, 272, 1, 148, 213, 80, 3, 656, 656, 656, 656, 5, 400, 400, 336, 5, 400, 400, 336, 5, 400, 400, 336, 5, 400, 400, 336, 5, 400, 400, 336, 5, 400, 400, 336, 5, 400, 400, 336, 5, 400, 400, 336, 4, 272, 4, 272, 4, 272, 4, 272, 4, 272, 4, 272, 4, 272, 4, 272, 4, 272, 4, 272, 4, 272, 4, 272, 50, 6, 9617, 1, 148, 213, 80, 3, 656, 656, 656, 656, 5, 400, 400, 336, 5, 400, 400, 336, 5, 400, 400, 336, 5, 400, 400, 336, 5, 400, 400, 336, 5, 400, 400, 336, 5, 400, 400, 336, 5, 400, 400, 336, 4, 272, 4, 272, 4, 272, 4, 272, 4, 272, 4, 272, 4, 272, 4, 272, 4, 272, 4, 272, 4, 272, 4, 272, 7, 32017, 9, 19056, 19056, 19056, 152336, 38096, 50, 9616, 38416, 35]
def gsh (a : Nat) : Nat := gsL.getD a 0
def gN : Nat := 864
/-- the kinds of a class's fields: 0 int, 1 long, 2 reference -/
def gfk (t : Nat) : List Nat :=
  if t = 1 then [2, 2, 2, 2, 0, 0, 0, 0, 0] else if t = 2 then [2, 0, 0] else if t = 3 then [2, 2, 2, 2, 0] else if t = 4 then [2, 0, 0, 0, 0, 0]
  else if t = 5 then [2, 2, 2, 1, 0, 0, 0, 0, 0, 0, 0, 0, 0, 0, 0] else if t = 6 then [2, 2, 0, 0, 0, 0, 0, 0, 1, 0, 0] else if t = 7 then [2, 0]
  else if t = 8 then [2, 2, 2, 2, 2, 2, 2] else if t = 9 then [2, 2, 2, 2, 2, 2, 0, 0, 2, 0, 0, 0, 0, 0, 0, 0, 0, 0, 2, 0] else []
/-- what an object of kind t keeps: how far away it lies, and its kind -/
def gcl (t : Nat) : List (Option (Nat × Nat)) :=
  if t = 1 then [some (1, 148), some (2, 213), some (3, 80), some (4, 3)]
  else if t = 2 then [some (1, 150)]
  else if t = 3 then [some (1, 656), some (2, 656), some (3, 656), some (4, 656)]
  else if t = 4 then [some (1, 272)]
  else if t = 5 then [some (1, 400), some (2, 400), some (3, 336)]
  else if t = 6 then [some (1, 9617), some (2, 1)]
  else if t = 7 then [some (1, 32017)]
  else if t = 8 then [some (1, 1), some (66, 1), some (131, 2), some (653, 54), some (784, 50), some (785, 6), some (852, 7)]
  else if t = 9 then [some (1, 19056), some (2, 19056), some (3, 19056), some (4, 152336), some (5, 38096), some (6, 50), none, none, some (7, 9616), none, none, none, none, none, none, none, none, none, some (8, 38416)]
  else if t = 148 then [some (8, 5), some (12, 5), some (16, 5), some (20, 5), some (24, 5), some (28, 5), some (32, 5), some (36, 5)]
  else if t = 213 then [some (39, 4), some (41, 4), some (43, 4), some (45, 4), some (47, 4), some (49, 4), some (51, 4), some (53, 4), some (55, 4), some (57, 4), some (59, 4), some (61, 4)]
  else if t = 150 then [some (1, 1), some (66, 1), some (131, 1), some (196, 1), some (261, 1), some (326, 1), some (391, 1), some (456, 1)]
  else if t = 54 then [some (1, 1), some (66, 1)]
  else []
def gch (t k : Nat) : Option (Nat × Nat) := (gcl t).getD k none
theorem gch_148 {k : Nat} (h : k < 8) : gch 148 k = some (8 + 4 * k, 5) := by
  have : ∀ k, k < 8 → gch 148 k = some (8 + 4 * k, 5) := by decide +kernel
  exact this k h
theorem gch_213 {k : Nat} (h : k < 12) : gch 213 k = some (39 + 2 * k, 4) := by
  have : ∀ k, k < 12 → gch 213 k = some (39 + 2 * k, 4) := by decide +kernel
  exact this k h
theorem gch_150 {k : Nat} (h : k < 8) : gch 150 k = some (1 + 65 * k, 1) := by
  have : ∀ k, k < 8 → gch 150 k = some (1 + 65 * k, 1) := by decide +kernel
  exact this k h
theorem gch_54 {k : Nat} (h : k < 2) : gch 54 k = some (1 + 65 * k, 1) := by
  have : ∀ k, k < 2 → gch 54 k = some (1 + 65 * k, 1) := by decide +kernel
  exact this k h
/-- the kept references, once all is made -/
def gRm (a k : Nat) : Nat := match gch (gsh a) k with
  | some q => a + q.1
  | none => 0
/-- a guard g: what it lets through lies among the first n, is of that kind, and so is all that it keeps -/
def gLC (g : Nat → Nat) (n : Nat) (Rm : Nat → Nat → Nat) : Prop := ∀ a, g a ≠ 0 → (1 ≤ a ∧ a ≤ n ∧ gsh a = g a) ∧ ∀ (k : Nat) (q : Nat × Nat), gch (g a) k = some q → Rm a k = a + q.1 ∧ g (a + q.1) = q.2
theorem gsh_out {a : Nat} (h : gN < a) : gsh a = 0 := by
  unfold gsh
  have hl : gsL.length = gN + 1 := by decide +kernel
  rw [List.getD_eq_getElem?_getD, List.getElem?_eq_none (by omega)]
  rfl
theorem gch_wd {t k : Nat} {q : Nat × Nat} (h : gch t k = some q) : k < (gcl t).length := by
  rcases Nat.lt_or_ge k (gcl t).length with h1 | h1
  · exact h1
  · unfold gch at h
    rw [List.getD_eq_getElem?_getD, List.getElem?_eq_none h1] at h
    cases h
/-- the whole layout keeps its word -/
def gLCb (a : Nat) : Bool := (List.range (gcl (gsh a)).length).all fun k => match gch (gsh a) k with
  | some q => gsh (a + q.1) == q.2
  | none => true
theorem gLC_all : (List.range (gN + 1)).all gLCb = true := by decide +kernel
theorem gLC_main : gLC gsh gN gRm := by
  intro a ha
  have hle : a ≤ gN := by
    rcases Nat.lt_or_ge gN a with h | h
    · exact absurd (gsh_out h) ha
    · exact h
  have h0 : 1 ≤ a := by
    rcases Nat.eq_zero_or_pos a with h | h
    · subst h
      exact absurd (by decide +kernel : gsh 0 = 0) ha
    · exact h
  refine ⟨⟨h0, hle, rfl⟩, fun k q hq => ?_⟩
  have h1 := List.all_eq_true.mp gLC_all a (List.mem_range.mpr (by omega))
  have h2 := List.all_eq_true.mp h1 k (List.mem_range.mpr (gch_wd hq))
  rw [hq] at h2
  refine ⟨by unfold gRm; rw [hq], by simpa using h2⟩
