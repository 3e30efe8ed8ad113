/-! PURE: fairest -/
def qLenN (x : Int) : Nat → Int → gRow → gRow
  | 0, _, r => r
  | n + 1, p, r => qLenN x n (p + 1) (rsp r p 4 x)
def qLen (r : gRow) (x : Int) : gRow := qLenN x (r 1).toNat 0 r
def qFairU (r : gRow) (x : Int) : Int := sUnfair (qGoes (qLen r x) 60).2
def sFairN (r : gRow) : Nat → Int → Int → Int → Int
  | 0, b, _, _ => b
  | n + 1, b, l, x => if b ≤ 0 ∨ qFairU r x < l then sFairN r n x (qFairU r x) (x + 1) else sFairN r n b l (x + 1)
def sFairest (r : gRow) : Int := sFairN r 9 0 0 1
section Fair
variable {M M' : gMem} {d a : Nat} {r : gRow} {K K' n : Int} {g : Nat → Nat}
theorem qLenN_facts {x : Int} (hx : 1 ≤ x ∧ x ≤ 9) : ∀ (n : Nat) (p : Int) (r : gRow), qOK r K → 0 ≤ p → p + n = r 1 → qOK (qLenN x n p r) K ∧ (∀ j : Nat, j < 6 → (qLenN x n p r) j = r j) ∧ ∀ j : Nat, 1190 ≤ j → (qLenN x n p r) j = r j := by
  intro n
  induction n with
  | zero => intro p r hO h0 hs; exact ⟨hO, fun _ _ => rfl, fun _ _ => rfl⟩
  | succ n ih =>
    intro p r hO h0 hs
    have h1 := hO.2.1
    have e1 : (rsp r p 4 x) 1 = r 1 := rsp_lo h0 (by omega) (by omega)
    obtain ⟨A, B, C⟩ := ih (p + 1) (rsp r p 4 x) (qOK_rsp hO (Int.le_refl K) ⟨h0, by omega⟩ (by unfold qVal; omega)) (by omega) (by omega)
    exact ⟨A, fun j hj => (B j hj).trans (rsp_lo h0 (by omega) hj), fun j hj => (C j hj).trans (rsp_top (by omega) (by omega) hj)⟩
theorem c_len_lp {x : Int} (hx : 1 ≤ x ∧ x ≤ 9) : ∀ (n : Nat) (p : Int) (r : gRow) (M : gMem) (fu : Nat), qOK r K → DR M (a + 66) r K → 0 ≤ p → p + n = r 1 → n < fu → ∃ M', fX8_tryTurnLength_13 g fu a x p M = some M' ∧ DR M' (a + 66) (qLenN x n p r) K ∧ gFr (a + 66) M M' := by
  intro n
  induction n with
  | zero =>
    intro p r M fu hO hD h0 hs hf
    obtain ⟨fu, rfl⟩ := fuS hf
    unfold fX8_tryTurnLength_13
    rw [hD.1.2.1, if_pos (by omega)]
    exact ⟨M, rfl, hD, gFr.rfl'⟩
  | succ n ih =>
    intro p r M fu hO hD h0 hs hf
    obtain ⟨fu, rfl⟩ := fuS hf
    have h1 := hO.2.1
    have hp : 0 ≤ p ∧ p < r 1 := by omega
    have D4 := DR_p (k := 4) (v := x) hO hD hp (by omega) (Int.le_refl K)
    have e1 : (rsp r p 4 x) 1 = r 1 := rsp_lo h0 (by omega) (by omega)
    have F : gFr (a + 66) M (gup M (a + 66 + 1 + (8 + 4 * p.toNat)) 5 x) := gFr.up (by omega)
    obtain ⟨M2, e2, D2, F2⟩ := ih (p + 1) (rsp r p 4 x) _ fu (qOK_rsp hO (Int.le_refl K) hp (by unfold qVal; omega)) D4 (by omega) (by omega) (by omega)
    unfold fX8_tryTurnLength_13 fX8_tryTurnLength_42
    rw [hD.1.2.1, if_neg (by omega), c_procAt_in hD.1 h1 hp, Option.bind_some, if_neg (by omega), gst_eq, gst_eq, gwi_eq (by omega) (by omega)]
    exact ⟨M2, e2, D2, F.trans F2⟩
theorem c_len {x : Int} (hx : 1 ≤ x ∧ x ≤ 9) (hO : qOK r K) (hD : DR M (a + 1) r K) : ∃ M', fX8_tryTurnLength g a x M = some M' ∧ DR M' (a + 66) (qLen r x) K ∧ gFr (a + 66) M M' := by
  have h1 := hO.2.1
  obtain ⟨M1, e1, D1, -, F1⟩ := c_try (g := g) hO hD
  obtain ⟨M2, e2, D2, F2⟩ := c_len_lp (g := g) hx (r 1).toNat 0 r M1 gF hO D1 (by omega) (by omega) (by unfold gF; omega)
  unfold fX8_tryTurnLength qLen
  rw [e1, Option.bind_some, e2]
  exact ⟨M2, rfl, D2, F1.trans F2⟩
theorem c_fair_lp (hO : qOK r K) (hK : K ≤ 80000000) : ∀ (n : Nat) (b l x : Int) (M : gMem) (fu : Nat), DR M (a + 1) r K → 1 ≤ x → x + n = 10 → (b = -1 ∨ 1 ≤ b) → n < fu → ∃ M', fX8_fairest_6 g fu a b l x M = some (sFairN r n b l x, M') ∧ gFc a M M' := by
  intro n
  induction n with
  | zero =>
    intro b l x M fu hD h0 hs hb hf
    obtain ⟨fu, rfl⟩ := fuS hf
    unfold fX8_fairest_6 sFairN
    rw [if_pos (by omega)]
    exact ⟨M, rfl, gFc.rfl'⟩
  | succ n ih =>
    intro b l x M fu hD h0 hs hb hf
    obtain ⟨fu, rfl⟩ := fuS hf
    have h1 := hO.2.1
    obtain ⟨L1, -, -⟩ := qLenN_facts (K := K) (x := x) (by omega) (r 1).toNat 0 r hO (by omega) (by omega)
    obtain ⟨M1, e1, D1, F1⟩ := c_len (g := g) (x := x) (by omega) hO hD
    obtain ⟨M2, e2, D2, O2, F2⟩ := c_advance (g := g) (r := qLen r x) (n := 60) L1 (by omega) D1 (by omega)
    have hD2 := hD.off hO (F1.gFc.trans F2.gFc)
    have eu : fX0_stepSpread g (a + 66) M2 = some (qFairU r x) := a_unfair O2 (by omega) D2
    unfold fX8_fairest_6 sFairN fX8_fairest_47 fX8_fairest_52
    rw [if_neg (by omega), e1, Option.bind_some, e2, Option.bind_some]
    show ∃ M', (fX0_stepSpread g (a + 66) M2).bind _ = _ ∧ _
    rw [eu, Option.bind_some]
    simp only [gst_eq]
    rw [gwi_eq (by omega) (by omega)]
    by_cases hb1 : b = -1
    · rw [if_pos hb1, if_pos (by omega)]
      obtain ⟨M3, e3, F3⟩ := ih x (qFairU r x) (x + 1) M2 fu hD2 (by omega) (by omega) (by omega) (by omega)
      exact ⟨M3, e3, (F1.gFc.trans F2.gFc).trans F3⟩
    · rw [if_neg hb1]
      by_cases hu : l ≤ qFairU r x
      · rw [if_pos hu, if_neg (by omega)]
        obtain ⟨M3, e3, F3⟩ := ih b l (x + 1) M2 fu hD2 (by omega) (by omega) (by omega) (by omega)
        exact ⟨M3, e3, (F1.gFc.trans F2.gFc).trans F3⟩
      · rw [if_neg hu, if_pos (by omega)]
        obtain ⟨M3, e3, F3⟩ := ih x (qFairU r x) (x + 1) M2 fu hD2 (by omega) (by omega) (by omega) (by omega)
        exact ⟨M3, e3, (F1.gFc.trans F2.gFc).trans F3⟩
theorem a_fair (hO : qOK r K) (hK : K ≤ 80000000) (hD : DR M (a + 1) r K) : ∃ M', fX8_fairest g a M = some (sFairest r, M') ∧ gFc a M M' := by
  obtain ⟨M1, e1, F1⟩ := c_fair_lp (g := g) hO hK 9 (-1) 0 1 M gF hD (by omega) (by omega) (by omega) (by unfold gF; omega)
  have e : sFairN r 9 (-1) 0 1 = sFairest r := by
    unfold sFairest sFairN
    rw [if_pos (by omega), if_pos (by omega)]
  rw [e] at e1
  exact ⟨M1, e1, F1⟩
theorem m_len_lp {k : Nat → Int → Int → Int → gMem → Option (Int × gMem)} {b l x : Int} (hx : 1 ≤ x ∧ x ≤ 9) : ∀ (n : Nat) (p : Int) (r : gRow) (fu : Nat), qOK r K → 0 ≤ p → p + n = r 1 → n < fu → fX9_fairest_24 g k fu a b l x p (mrow M (a + 1) r) = fX9_fairest_24 g k 1 a b l x (r 1) (mrow M (a + 1) (qLenN x n p r)) := by
  intro n
  induction n with
  | zero =>
    intro p r fu hO h0 hs hf
    obtain ⟨fu, rfl⟩ := fuS hf
    have e : p = r 1 := by omega
    unfold qLenN
    rw [e]
    unfold fX9_fairest_24
    rw [mrow_at, tn1, if_pos (by omega), if_pos (by omega), if_pos (by omega), if_pos (by omega)]
  | succ n ih =>
    intro p r fu hO h0 hs hf
    obtain ⟨fu, rfl⟩ := fuS hf
    have h1 := hO.2.1
    have e1 : (rsp r p 4 x) 1 = r 1 := rsp_lo h0 (by omega) (by omega)
    have := ih (p + 1) (rsp r p 4 x) fu (qOK_rsp hO (Int.le_refl K) ⟨h0, by omega⟩ (by unfold qVal; omega)) (by omega) (by omega) (by omega)
    rw [e1] at this
    rw [show qLenN x (n + 1) p r = qLenN x n (p + 1) (rsp r p 4 x) from rfl, ← this]
    rw [show fX9_fairest_24 g k (fu + 1) a b l x p (mrow M (a + 1) r) = (fX9_sets g a p 4 x (mrow M (a + 1) r)).bind fun M_14 => gst (gwi (p + 1)) fun x_15 => fX9_fairest_24 g k fu a b l x x_15 M_14 by
      conv => lhs; unfold fX9_fairest_24
      rw [mrow_at, tn1, if_pos (by omega), if_neg (by omega)]]
    rw [m_sets (by omega) (by omega), Option.bind_some, gst_eq, gwi_eq (by omega) (by omega)]
theorem m_fair_lp (l1 : g (a + 1) / 16 - 1 = 1190) (l3 : g (a + 3) / 16 - 1 = 1190) (hO : qOK r K) (hK : K ≤ 80000000) : ∀ (n : Nat) (b l x : Int) (M : gMem) (fu : Nat), 1 ≤ x → x + n = 10 → n < fu → ∃ N, fX9_fairest_11 g fu a b l x (mrow M (a + 1) r) = some (sFairN r n b l x, mrow N (a + 1) r) ∧ N a 7 = M a 7 ∧ gFt a M N := by
  intro n
  induction n with
  | zero =>
    intro b l x M fu h0 hs hf
    obtain ⟨fu, rfl⟩ := fuS hf
    unfold fX9_fairest_11 sFairN
    rw [if_pos (by omega)]
    exact ⟨M, rfl, rfl, gFt.rfl'⟩
  | succ n ih =>
    intro b l x M fu h0 hs hf
    obtain ⟨fu, rfl⟩ := fuS hf
    have h1 := hO.2.1
    obtain ⟨L1, L2, L3⟩ := qLenN_facts (K := K) (x := x) (by omega) (r 1).toNat 0 r hO (by omega) (by omega)
    obtain ⟨N1, e1, T1, F1, E1⟩ := m_aside (g := g) (r := r) (M := M) l1 l3
    obtain ⟨O2, -, -, -, B2⟩ := qGoes_facts (r := qLenN x (r 1).toNat 0 r) L1 (n := 60) (by omega)
    have eu : ∀ N : gMem, fX9_unfairNow g a (mrow N (a + 1) (qGoes (qLenN x (r 1).toNat 0 r) 60).2) = some (qFairU r x) := fun N => m_unfair O2 (by omega)
    unfold fX9_fairest_11 sFairN
    rw [if_neg (by omega), e1, Option.bind_some, m_len_lp (by omega) (r 1).toNat 0 r gF hO (by omega) (by omega) (by unfold gF; omega)]
    unfold fX9_fairest_24 fX9_fairest_82 fX9_fairest_87
    rw [mrow_at, tn1, if_pos (by omega), L2 1 (by omega), if_pos (by omega), m_goesOn L1 (by omega) (by omega), Option.bind_some]
    show ∃ N, (gst (gup (mrow N1 (a + 1) (qGoes (qLenN x (r 1).toNat 0 r) 60).2) a 17 (qGoes (qLenN x (r 1).toNat 0 r) 60).1) _) = _ ∧ _
    rw [gst_eq, mrow_a17, eu, Option.bind_some, m_back l1 l3 T1.a17 (fun j hj => (B2 j hj).trans (L3 j hj)), Option.bind_some]
    simp only [gst_eq]
    rw [gwi_eq (by omega) (by omega)]
    generalize (qGoes (qLenN x (r 1).toNat 0 r) 60).1 = z
    have E7 : gup N1 a 17 z a 7 = M a 7 := by rw [gup_miss (by omega), E1]
    by_cases hb1 : b ≤ 0
    · rw [if_pos hb1, if_pos (Or.inl hb1)]
      obtain ⟨N3, e3, v3, F3⟩ := ih x (qFairU r x) (x + 1) (gup N1 a 17 z) fu (by omega) (by omega) (by omega)
      exact ⟨N3, e3, v3.trans E7, (F1.trans gFt.a17).trans F3⟩
    · rw [if_neg hb1]
      by_cases hu : qFairU r x < l
      · rw [if_pos hu, if_pos (Or.inr hu)]
        obtain ⟨N3, e3, v3, F3⟩ := ih x (qFairU r x) (x + 1) (gup N1 a 17 z) fu (by omega) (by omega) (by omega)
        exact ⟨N3, e3, v3.trans E7, (F1.trans gFt.a17).trans F3⟩
      · rw [if_neg hu, if_neg (by omega)]
        obtain ⟨N3, e3, v3, F3⟩ := ih b l (x + 1) (gup N1 a 17 z) fu (by omega) (by omega) (by omega)
        exact ⟨N3, e3, v3.trans E7, (F1.trans gFt.a17).trans F3⟩
theorem b_fair (l1 : g (a + 1) / 16 - 1 = 1190) (l3 : g (a + 3) / 16 - 1 = 1190) (hO : qOK r K) (hK : K ≤ 80000000) : ∃ N, fX9_fairest g a (mrow M (a + 1) r) = some (sFairest r, mrow N (a + 1) r) ∧ N a 7 = 0 ∧ gFt a M N := by
  obtain ⟨N, e, v, F⟩ := m_fair_lp (g := g) l1 l3 hO hK 9 0 0 1 (gup M a 7 0) gF (by omega) (by omega) (by unfold gF; omega)
  unfold fX9_fairest sFairest
  rw [gst_eq, mrow_a7]
  exact ⟨N, e, by rw [v]; exact gup_hit rfl rfl, gFt.a7.trans F⟩
end Fair
