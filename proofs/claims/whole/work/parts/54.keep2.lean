/-! PURE: keeping and undoing, the reference's side -/
section Keep2
variable {M M' : gMem} {a : Nat} {r : gRow} {n : Int} {kept : Nat → gRow} {g : Nat → Nat}
/-- the reference's memory changed in its kept rows and their number alone -/
def gFk (a : Nat) (M M' : gMem) : Prop := (∀ x : Nat, ¬ x = a → ¬ x = a + 4 → M' x = M x) ∧ ∀ j : Nat, ¬ j = 6 → M' a j = M a j
theorem m_keeps50 (l1 : g (a + 1) / 16 - 1 = 1190) (l4 : g (a + 4) / 16 - 1 = 9520) (h6 : M a 6 = n) (hn : 0 ≤ n ∧ n ≤ 7) (hk : ∀ b : Nat, (b : Int) < n → ∀ j : Nat, j < 1190 → M (a + 4) (1190 * (n.toNat - 1 - b) + j) = kept b j) : ∃ M', fX9_keeps_50 g a (a + 1) M = some M' ∧ KM M' a (n + 1) (qKeep (M (a + 1)) kept) ∧ gFk a M M' := by
  refine ⟨gup (gcp M (a + 1) 0 (a + 4) (1190 * n).toNat 1190) a 6 (n + 1), ?_, ⟨gup_hit rfl rfl, by omega, fun b hb j hj => ?_⟩, ⟨fun x q1 q2 => by rw [gup_row q1, gcp_row q2], fun j hj => by rw [gup_miss (fun z => hj z.2), gcp_row (by omega)]⟩⟩
  · unfold fX9_keeps_50
    rw [h6, gwi_eq (by omega) (by omega), m_copies (by omega) (by omega) (by omega) (by rw [l1]; omega) (by rw [l4]; omega), Option.bind_some, tn0, gst_eq, gcp_row (by omega), h6, gwi_eq (by omega) (by omega)]
  · rw [gup_row (by omega)]
    cases b with
    | zero =>
      rw [gcp_hit ⟨rfl, by omega, by omega⟩]
      show M (a + 1) _ = M (a + 1) j
      congr 1
      omega
    | succ b =>
      have := hk b (by omega) j hj
      rw [gcp_miss (by omega)]
      show M (a + 4) _ = kept b j
      rw [← this]
      congr 2
      omega
theorem m_keeps11 : ∀ (n : Nat) (i : Nat) (fu : Nat), i + n = 8330 → n < fu → fX9_keeps_11 g fu a (a + 1) (i : Int) (gcp M (a + 4) 1190 (a + 4) 0 i) = (gst (gup (gcp M (a + 4) 1190 (a + 4) 0 8330) a 6 (gwi (gcp M (a + 4) 1190 (a + 4) 0 8330 a 6 - 1))) fun M_3 => fX9_keeps_50 g a (a + 1) M_3) := by
  intro n
  induction n with
  | zero =>
    intro i fu hs hf
    obtain ⟨fu, rfl⟩ := fuS hf
    unfold fX9_keeps_11
    have : i = 8330 := by omega
    rw [if_pos (by omega), this]
  | succ n ih =>
    intro i fu hs hf
    obtain ⟨fu, rfl⟩ := fuS hf
    unfold fX9_keeps_11
    have e : gup (gcp M (a + 4) 1190 (a + 4) 0 i) (a + 4) (i : Int).toNat (gcp M (a + 4) 1190 (a + 4) 0 i (a + 4) ((i : Int) + 1190).toNat) = gcp M (a + 4) 1190 (a + 4) 0 (i + 1) := by
      rw [show gcp M (a + 4) 1190 (a + 4) 0 i (a + 4) ((i : Int) + 1190).toNat = M (a + 4) ((i : Int) + 1190).toNat from gcp_miss (by omega)]
      funext b j
      unfold gup
      by_cases hb : b = a + 4 ∧ j = (i : Int).toNat
      · rw [if_pos hb, gcp_hit ⟨hb.1, by omega, by omega⟩]
        have : ((i : Int) + 1190).toNat = 1190 + (j - 0) := by omega
        rw [this]
      · rw [if_neg hb]
        unfold gcp
        by_cases h2 : b = a + 4 ∧ 0 ≤ j ∧ j < 0 + i
        · rw [if_pos h2, if_pos ⟨h2.1, h2.2.1, by omega⟩]
        · rw [if_neg h2, if_neg (by omega)]
    rw [if_neg (by omega), gwi_eq (x := (i : Int) + 1190) (by omega) (by omega), if_pos (by omega), if_pos (by omega), gst_eq, gst_eq, gwi_eq (by omega) (by omega), e]
    exact ih (i + 1) fu (by omega) (by omega)
theorem m_keeps (l1 : g (a + 1) / 16 - 1 = 1190) (l4 : g (a + 4) / 16 - 1 = 9520) (hK : KM M a n kept) : ∃ M', fX9_keeps g a (a + 1) M = some M' ∧ KM M' a (gmin (n + 1) 8) (qKeep (M (a + 1)) kept) ∧ gFk a M M' := by
  obtain ⟨k1, k2, k3⟩ := hK
  unfold fX9_keeps
  rw [k1]
  by_cases h8 : n = 8
  · have e0 : gcp M (a + 4) 1190 (a + 4) 0 0 = M := by
      funext b j
      exact gcp_miss (by omega)
    have L := m_keeps11 (g := g) (a := a) (M := M) 8330 0 gF (by omega) (by unfold gF; omega)
    rw [e0] at L
    have e6 : gcp M (a + 4) 1190 (a + 4) 0 8330 a 6 = 8 := by rw [gcp_row (by omega), k1, h8]
    rw [e6, gst_eq, gwi_eq (x := 8 - 1) (by omega) (by omega)] at L
    have S := m_keeps50 (g := g) (a := a) (M := gup (gcp M (a + 4) 1190 (a + 4) 0 8330) a 6 7) (n := 7) (kept := kept) l1 l4 (gup_hit rfl rfl) (by omega) (fun b hb j hj => by
      rw [gup_row (by omega), gcp_hit ⟨rfl, by omega, by omega⟩]
      have := k3 b (by omega) j hj
      rw [← this]
      exact congrArg (M (a + 4)) (show 1190 + (1190 * ((7 : Int).toNat - 1 - b) + j - 0) = 1190 * (n.toNat - 1 - b) + j by omega))
    obtain ⟨M', e1, K1, F1, F2⟩ := S
    have er : gup (gcp M (a + 4) 1190 (a + 4) 0 8330) a 6 7 (a + 1) = M (a + 1) := by rw [gup_row (by omega), gcp_row (by omega)]
    rw [er] at K1
    refine ⟨M', ?_, ?_, ⟨fun x q1 q2 => by rw [F1 x q1 q2, gup_row q1, gcp_row q2], fun j hj => by rw [F2 j hj, gup_miss (fun z => hj z.2), gcp_row (by omega)]⟩⟩
    · rw [if_pos h8]
      exact (show fX9_keeps_11 g gF a (a + 1) 0 M = _ from L).trans e1
    · have : gmin (n + 1) 8 = 7 + 1 := by unfold gmin; split <;> omega
      rw [this]; exact K1
  · obtain ⟨M', e1, K1, F1⟩ := m_keeps50 (g := g) (a := a) (M := M) (n := n) (kept := kept) l1 l4 k1 (by omega) k3
    refine ⟨M', by rw [if_neg h8]; exact e1, ?_, F1⟩
    have : gmin (n + 1) 8 = n + 1 := by unfold gmin; split <;> omega
    rw [this]; exact K1
end Keep2
