/-! PURE: save, the class's side -/
/-- the class's two saved desks: fl says which hold one, sv what row it is -/
def SC (M : gMem) (a : Nat) (fl : Nat → Int) (sv : Nat → gRow) (K : Int) : Prop := ∀ i : Nat, i < 2 → M (a + 784) i = fl i ∧ (fl i = 0 ∨ fl i = 1) ∧ (fl i = 1 → qOK (sv i) K ∧ DR M (a + 653 + (1 + 65 * i)) (sv i) K)
section Save
variable {M M' : gMem} {a : Nat} {r : gRow} {K K' n : Int} {fl : Nat → Int} {sv : Nat → gRow} {g : Nat → Nat}
theorem a_save (hO : qOK r K) (hD : DR M (a + 1) r K) (hS : SC M a fl sv K) {x : Int} : ∃ M', fX8_save g a x M = some ((if 0 ≤ x ∧ x < 2 then .inr () else .inl 3), M') ∧ SC M' a (fun i => if 0 ≤ x ∧ x < 2 ∧ i = x.toNat then 1 else fl i) (fun i => if 0 ≤ x ∧ x < 2 ∧ i = x.toNat then r else sv i) K ∧ ∀ y : Nat, y < a + 654 ∨ a + 784 < y → M' y = M y := by
  unfold fX8_save
  by_cases hx : 0 ≤ x ∧ x < 2
  · obtain ⟨M1, e1, D1, F1⟩ := c_copyFrom (g := g) (d := a + 1) (d' := a + 653 + (1 + 65 * x.toNat)) (by omega) hO hD
    rw [if_neg (by omega), if_neg (by omega), if_pos hx.2, if_pos hx, e1, Option.bind_some, if_pos hx, gst_eq, if_pos hx]
    refine ⟨gup M1 (a + 784) x.toNat 1, rfl, fun i hi => ?_, fun y q => ?_⟩
    · obtain ⟨s1, s2, s3⟩ := hS i hi
      by_cases e : i = x.toNat
      · simp only [if_pos (show 0 ≤ x ∧ x < 2 ∧ i = x.toNat from ⟨hx.1, hx.2, e⟩)]
        refine ⟨gup_hit rfl e, Or.inr trivial, fun _ => ⟨hO, ?_⟩⟩
        rw [e]
        exact D1.frame hO (fun y q1 q2 => gup_row (by omega))
      · simp only [if_neg (show ¬ (0 ≤ x ∧ x < 2 ∧ i = x.toNat) from fun z => e z.2.2)]
        refine ⟨?_, s2, fun h1 => ⟨(s3 h1).1, (s3 h1).2.frame (s3 h1).1 (fun y q1 q2 => ?_)⟩⟩
        · rw [gup_miss (fun z => e z.2), F1 (a + 784) (by omega)]; exact s1
        · rw [gup_row (by omega), F1 y (by omega)]
    · rw [gup_row (by omega), F1 y (by omega)]
  · rw [if_neg hx]
    have hc : ∀ i : Nat, ¬ (0 ≤ x ∧ x < 2 ∧ i = x.toNat) := fun i z => hx ⟨z.1, z.2.1⟩
    simp only [if_neg (hc _)]
    refine ⟨M, ?_, hS, fun _ _ => rfl⟩
    by_cases h1 : x < 0
    · rw [if_pos h1, if_neg hx]
    · rw [if_neg h1, if_pos (by omega), if_neg hx]
end Save
