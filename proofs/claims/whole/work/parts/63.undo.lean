/-! PURE: undo -/
/-- rows that agree where a row has places -/
def qEq (r r' : gRow) : Prop := ∀ j : Nat, j < 1190 → r' j = r j
section Undo
variable {M M' : gMem} {a d : Nat} {r : gRow} {K K' n : Int} {kept : Nat → gRow} {g : Nat → Nat}
theorem a_undo (hO : qOK r K) (hD : DR M (a + 1) r K) (hKC : KC M (a + 131) n kept K) (hn : 0 ≤ n ∧ n ≤ 8) : ∃ M', fX8_undo g a M = some ((if n = 0 then .inl 1 else .inr (n - 1)), M') ∧ DR M' (a + 1) (if n = 0 then r else kept 0) K ∧ qOK (if n = 0 then r else kept 0) K ∧ KC M' (a + 131) (if n = 0 then n else n - 1) (if n = 0 then kept else fun b => kept (b + 1)) K ∧ gFd a M M' := by
  have hKC0 := hKC
  obtain ⟨k1, k2, k3⟩ := hKC
  unfold fX8_undo
  rw [k1]
  by_cases h0 : n = 0
  · rw [if_neg (by omega)]
    simp only [if_pos h0]
    exact ⟨M, rfl, hD, hO, hKC0, gFd.rfl'⟩
  · rw [if_pos (by omega)]
    simp only [if_neg h0]
    unfold fX1_bringBack
    rw [k1, if_pos (by omega)]
    obtain ⟨o0, d0⟩ := k3 0 (by omega)
    generalize hz : M (a + 131) 2 = z at k2 k3 d0
    have em : (z + 8 - 1).tmod 8 = (z + 7) % 8 := by rw [tmod_pos (by omega)]; congr 1; omega
    rw [gwi_eq (x := z + 8) (by omega) (by omega), gwi_eq (x := z + 8 - 1) (by omega) (by omega), em]
    have w1 : gup M (a + 131) 2 ((z + 7) % 8) (a + 131) 1 = n := by rw [gup_miss (by omega)]; exact k1
    rw [gst_eq, gst_eq, w1, gwi_eq (by omega) (by omega)]
    generalize hM1 : gup (gup M (a + 131) 2 ((z + 7) % 8)) (a + 131) 1 (n - 1) = M1
    have v2 : M1 (a + 131) 2 = (z + 7) % 8 := by rw [← hM1, gup_miss (by omega), gup_hit rfl rfl]
    have v1 : M1 (a + 131) 1 = n - 1 := by rw [← hM1, gup_hit rfl rfl]
    have fr : ∀ x : Nat, ¬ x = a + 131 → M1 x = M x := fun x q => by rw [← hM1, gup_row q, gup_row q]
    have ei : ((z + 7 - ((0 : Nat) : Int)) % 8).toNat = ((z + 7) % 8).toNat := by omega
    rw [ei] at d0
    have d1 : DR M1 (a + 131 + 1 + (1 + 65 * ((z + 7) % 8).toNat)) (kept 0) K := d0.frame o0 (fun x q1 q2 => fr x (by omega))
    obtain ⟨M2, e2, D2, F2⟩ := c_copyFrom (g := g) (d' := a + 1) (by omega) o0 d1
    rw [v2, if_neg (by omega), if_neg (by omega), if_pos (by omega), e2]
    have u1 : M2 (a + 131) 1 = n - 1 := by rw [F2 (a + 131) (by omega)]; exact v1
    refine ⟨M2, ?_, D2, o0, ⟨u1, ?_, fun b hb => ?_⟩, fun x q => ?_⟩
    · rw [Option.bind_some, Option.bind_some, u1]
    · rw [F2 (a + 131) (by omega), v2]; omega
    · obtain ⟨o, dd⟩ := k3 (b + 1) (by omega)
      refine ⟨o, ?_⟩
      have ej : (((z + 7) % 8 + 7 - (b : Int)) % 8).toNat = ((z + 7 - ((b + 1 : Nat) : Int)) % 8).toNat := by omega
      rw [F2 (a + 131) (by omega), v2, ej]
      exact dd.frame o (fun x q1 q2 => by rw [F2 x (by omega), fr x (by omega)])
    · rw [F2 x (by omega), fr x (by omega)]
end Undo
