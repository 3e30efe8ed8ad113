/-! PURE: what would be: turnsLeft, wouldSay, wouldFail -/
def sLeft (r : gRow) : Int := if qLive (qGoes r 300).2 = -1 then (qGoes r 300).1 else -1
def sWSay (r : gRow) (p n : Int) : Nat ⊕ Int := if 0 ≤ p ∧ p < r 1 then (if 0 ≤ n ∧ n ≤ 300 then .inr (qSaid (qGoes r n).2 p 0) else .inl 2) else .inl 3
def sWFail (r : gRow) (p : Int) : Nat ⊕ Int := if 0 ≤ p ∧ p < r 1 then .inr (rp (qGoes r 300).2 p 1) else .inl 3
theorem gtry_r {α ρ : Type} {v : α} {kx : Nat → Option ρ} {k : α → Option ρ} : gtry (some (.inr v)) kx k = k v := rfl
theorem gtry_l {α ρ : Type} {e : Nat} {kx : Nat → Option ρ} {k : α → Option ρ} : gtry (some (.inl e)) kx k = kx e := rfl
section Would
variable {M M' : gMem} {d a : Nat} {r : gRow} {K K' n : Int} {g : Nat → Nat}
/-- what trying leaves alone in the class -/
def gFc (a : Nat) (M M' : gMem) : Prop := ∀ x : Nat, x < a + 66 ∨ a + 131 ≤ x → M' x = M x
theorem gFc.rfl' : gFc a M M := fun _ _ => rfl
theorem gFc.trans {M'' : gMem} (h : gFc a M M') (h' : gFc a M' M'') : gFc a M M'' := fun x q => (h' x q).trans (h x q)
theorem gFr.gFc (hf : gFr (a + 66) M M') : gFc a M M' := fun x q => hf x (by omega)
theorem c_try (hO : qOK r K) (hD : DR M (a + 1) r K) : ∃ M', fX0_copyFrom g (a + 66) (a + 1) M = some M' ∧ DR M' (a + 66) r K ∧ DR M' (a + 1) r K ∧ gFr (a + 66) M M' := by
  obtain ⟨M1, e1, D1, F1⟩ := c_copyFrom (g := g) (d := a + 1) (d' := a + 66) (by omega) hO hD
  exact ⟨M1, e1, D1, hD.frame hO (fun x q1 q2 => F1 x (by omega)), F1⟩
theorem DR.off (hO : qOK r K) (hD : DR M (a + 1) r K) (hf : gFc a M M') : DR M' (a + 1) r K := hD.frame hO (fun x q1 q2 => hf x (by omega))
theorem a_left (hO : qOK r K) (hK : K ≤ 80000000) (hD : DR M (a + 1) r K) : ∃ M', fX8_turnsLeft g a M = some (sLeft r, M') ∧ gFc a M M' := by
  obtain ⟨M1, e1, D1, -, F1⟩ := c_try (g := g) hO hD
  obtain ⟨M2, e2, D2, O2, F2⟩ := c_advance (g := g) (n := 300) hO (by omega) D1 (by omega)
  unfold fX8_turnsLeft sLeft
  rw [e1, Option.bind_some, e2, Option.bind_some, gst_eq, c_isOver O2 D2, Option.bind_some]
  by_cases h : qLive (qGoes r 300).2 = -1
  · rw [if_neg (by rw [qB_t h]; omega), if_pos h]
    exact ⟨M2, rfl, F1.gFc.trans F2.gFc⟩
  · rw [if_pos (qB_f h), if_neg h]
    exact ⟨M2, rfl, F1.gFc.trans F2.gFc⟩
theorem b_left (l1 : g (a + 1) / 16 - 1 = 1190) (l3 : g (a + 3) / 16 - 1 = 1190) (hO : qOK r K) (hK : K ≤ 80000000) : ∃ N, fX9_turnsLeft g a (mrow M (a + 1) r) = some (sLeft r, mrow N (a + 1) r) ∧ N a 7 = 0 ∧ gFt a M N := by
  unfold fX9_turnsLeft sLeft
  rw [gst_eq, mrow_a7]
  obtain ⟨N1, e1, T1, F1, E1⟩ := m_aside (g := g) (r := r) (M := gup M a 7 0) l1 l3
  obtain ⟨O2, -, -, -, B2⟩ := qGoes_facts hO (n := 300) (by omega)
  rw [e1, Option.bind_some, m_goesOn hO (by omega) (by omega), Option.bind_some, gst_eq, m_isOver O2, Option.bind_some, m_back l1 l3 T1 B2, Option.bind_some]
  by_cases h : qLive (qGoes r 300).2 = -1
  · rw [if_neg (by rw [qB_t h]; omega), if_pos h]
    exact ⟨N1, rfl, by rw [E1]; exact gup_hit rfl rfl, gFt.a7.trans F1⟩
  · rw [if_pos (qB_f h), if_neg h]
    exact ⟨N1, rfl, by rw [E1]; exact gup_hit rfl rfl, gFt.a7.trans F1⟩
theorem a_wsay (hO : qOK r K) (hK : K ≤ 80000000) (hD : DR M (a + 1) r K) {p n : Int} : ∃ M', fX8_wouldSay g a p n M = some (sWSay r p n, M') ∧ gFc a M M' := by
  unfold fX8_wouldSay sWSay
  rw [c_exP hO hD]
  by_cases hp : 0 ≤ p ∧ p < r 1
  · rw [if_pos hp, if_pos hp, gtry_r]
    by_cases hn : 0 ≤ n ∧ n ≤ 300
    · obtain ⟨M1, e1, D1, -, F1⟩ := c_try (g := g) hO hD
      obtain ⟨M2, e2, D2, O2, F2⟩ := c_advance (g := g) (n := n) hO (by omega) D1 (by omega)
      obtain ⟨-, -, B1, -, -⟩ := qGoes_facts hO hn.2
      have hp2 : 0 ≤ p ∧ p < (qGoes r n).2 1 := by rw [B1]; exact hp
      have h9 := (O2.p hp2).2.2.2.2.2.2.2.2.2.1
      rw [if_neg (by omega), if_pos hn.2, if_pos hn, e1, Option.bind_some, e2, Option.bind_some]
      show ∃ M', (fX0_procAt g (a + 66) p M2).bind _ = _ ∧ _
      rw [c_procAt_in D2.1 O2.2.1 hp2, Option.bind_some, if_neg (by omega), c_sayingAt (D2.2.1 p hp2.1 hp2.2) (by omega), Option.bind_some]
      exact ⟨M2, rfl, F1.gFc.trans F2.gFc⟩
    · rw [if_neg hn]
      refine ⟨M, ?_, gFc.rfl'⟩
      by_cases h1 : n < 0
      · rw [if_pos h1]
      · rw [if_neg h1, if_neg (by omega)]
  · rw [if_neg hp, if_neg hp]
    exact ⟨M, rfl, gFc.rfl'⟩
theorem b_wsay (l1 : g (a + 1) / 16 - 1 = 1190) (l3 : g (a + 3) / 16 - 1 = 1190) (hO : qOK r K) (hK : K ≤ 80000000) {p n : Int} : ∃ N, fX9_wouldSay g a p n (mrow M (a + 1) r) = some (qWert (sWSay r p n), mrow N (a + 1) r) ∧ N a 7 = qThr 3 (sWSay r p n) ∧ gFt a M N := by
  have h1 := hO.2.1
  unfold fX9_wouldSay sWSay fX9_wouldSay_29
  rw [m_isP h1, Option.bind_some]
  by_cases hp : 0 ≤ p ∧ p < r 1
  · rw [if_neg (by rw [qB_t hp]; omega), m_isIn, Option.bind_some, if_pos hp]
    by_cases hn : 0 ≤ n ∧ n ≤ 300
    · obtain ⟨N1, e1, T1, F1, E1⟩ := m_aside (g := g) (r := r) (M := gup M a 7 0) l1 l3
      obtain ⟨O2, -, B1, -, B2⟩ := qGoes_facts hO hn.2
      rw [if_neg (by rw [qB_t hn]; omega), if_pos hn, gst_eq, mrow_a7, mrow_7, if_pos (Int.le_refl 0), e1, Option.bind_some, m_goesOn hO (by omega) (by omega), Option.bind_some]
      show ∃ N, (gst (gup (mrow N1 (a + 1) (qGoes r n).2) a 17 (qGoes r n).1) _) = _ ∧ _
      rw [gst_eq, mrow_a17, m_saidOf O2 (by omega) (by rw [B1]; exact hp), Option.bind_some, m_back l1 l3 T1.a17 B2, Option.bind_some]
      exact ⟨_, rfl, by rw [gup_miss (by omega), E1]; exact gup_hit rfl rfl, (gFt.a7.trans F1).trans gFt.a17⟩
    · rw [if_pos (qB_f hn), if_neg hn, gst_eq, mrow_a7, mrow_7, if_neg (by omega)]
      exact ⟨_, rfl, gup_hit rfl rfl, gFt.a7⟩
  · rw [if_pos (qB_f hp), if_neg hp, gst_eq, mrow_a7, mrow_7, if_neg (by omega)]
    exact ⟨_, rfl, gup_hit rfl rfl, gFt.a7⟩
theorem a_wfail (hO : qOK r K) (hK : K ≤ 80000000) (hD : DR M (a + 1) r K) {p : Int} : ∃ M', fX8_wouldFail g a p M = some (sWFail r p, M') ∧ gFc a M M' := by
  unfold fX8_wouldFail sWFail
  rw [c_exP hO hD]
  by_cases hp : 0 ≤ p ∧ p < r 1
  · obtain ⟨M1, e1, D1, -, F1⟩ := c_try (g := g) hO hD
    obtain ⟨M2, e2, D2, O2, F2⟩ := c_advance (g := g) (n := 300) hO (by omega) D1 (by omega)
    obtain ⟨-, -, B1, -, -⟩ := qGoes_facts hO (n := 300) (by omega)
    have hp2 : 0 ≤ p ∧ p < (qGoes r 300).2 1 := by rw [B1]; exact hp
    rw [if_pos hp, if_pos hp, gtry_r, e1, Option.bind_some, e2, Option.bind_some]
    show ∃ M', (fX0_procAt g (a + 66) p M2).bind _ = _ ∧ _
    rw [c_procAt_in D2.1 O2.2.1 hp2, Option.bind_some, if_neg (by omega)]
    refine ⟨M2, ?_, F1.gFc.trans F2.gFc⟩
    show some (Sum.inr (M2 (a + 66 + 1 + (8 + 4 * p.toNat)) 9), M2) = _
    rw [(D2.2.1 p hp2.1 hp2.2).f.2.1]
  · rw [if_neg hp, if_neg hp]
    exact ⟨M, rfl, gFc.rfl'⟩
theorem b_wfail (l1 : g (a + 1) / 16 - 1 = 1190) (l3 : g (a + 3) / 16 - 1 = 1190) (hO : qOK r K) (hK : K ≤ 80000000) {p : Int} : ∃ N, fX9_wouldFail g a p (mrow M (a + 1) r) = some (qWert (sWFail r p), mrow N (a + 1) r) ∧ N a 7 = qThr 3 (sWFail r p) ∧ gFt a M N := by
  have h1 := hO.2.1
  unfold fX9_wouldFail sWFail fX9_wouldFail_14
  rw [m_isP h1, Option.bind_some]
  by_cases hp : 0 ≤ p ∧ p < r 1
  · obtain ⟨N1, e1, T1, F1, E1⟩ := m_aside (g := g) (r := r) (M := gup M a 7 0) l1 l3
    obtain ⟨O2, -, B1, -, B2⟩ := qGoes_facts hO (n := 300) (by omega)
    rw [if_neg (by rw [qB_t hp]; omega), if_pos hp, gst_eq, mrow_a7, mrow_7, if_pos (Int.le_refl 0), e1, Option.bind_some, m_goesOn hO (by omega) (by omega), Option.bind_some]
    show ∃ N, (gst (gup (mrow N1 (a + 1) (qGoes r 300).2) a 17 (qGoes r 300).1) _) = _ ∧ _
    rw [gst_eq, mrow_a17, m_of (by omega) (by omega), Option.bind_some, m_back l1 l3 T1.a17 B2, Option.bind_some]
    exact ⟨_, rfl, by rw [gup_miss (by omega), E1]; exact gup_hit rfl rfl, (gFt.a7.trans F1).trans gFt.a17⟩
  · rw [if_pos (qB_f hp), if_neg hp, gst_eq, mrow_a7, mrow_7, if_neg (by omega)]
    exact ⟨_, rfl, gup_hit rfl rfl, gFt.a7⟩
end Would
