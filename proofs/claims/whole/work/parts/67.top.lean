/-! PURE: behind the row's last place nothing is written; trying and putting back -/
section Top
variable {M M' : gMem} {d a : Nat} {r : gRow} {K K' n : Int} {g : Nat → Nat}
def gS90 : Nat → Bool := fun j => decide (1190 ≤ j)
theorem gS90.s1 : gS1 gS90 := fun j hj => Or.inr (Or.inl (by have := of_decide_eq_true hj; omega))
theorem rup_top {i v : Int} {j : Nat} (hi : i < 1190) (hj : 1190 ≤ j) : rup r i v j = r j := rup_miss (by omega)
theorem rsp_top {p k v : Int} {j : Nat} (hp : p < 8) (hk : k < 86) (hj : 1190 ≤ j) : rsp r p k v j = r j := rup_miss (by omega)
theorem qTr_top {p x y : Int} (h5 : 0 ≤ r 5 ∧ r 5 ≤ 40) {j : Nat} (hj : 1190 ≤ j) : (qTr r p x y) j = r j := by
  have T1 : ∀ r : gRow, 0 ≤ r 5 → r 5 ≤ 39 → (qTr1 r p x y) j = r j := by
    intro r h5 h5'
    unfold qTr1
    rw [rup_miss (by omega), rup_miss (by omega), rup_miss (by omega), rup_miss (by omega), rup_miss (by omega)]
  have e5 : qTS 156 1030 r 5 = r 5 := by rw [qTS_at _ _ _ (by omega), if_neg (by omega)]
  unfold qTr
  by_cases h : r 5 = 40
  · have e0 : qTr0 r 5 = 39 := by unfold qTr0; rw [rup_hit (by rfl), e5]; omega
    rw [if_pos h, T1 (qTr0 r) (by omega) (by omega)]
    unfold qTr0
    rw [rup_miss (by omega), qTS_at _ _ _ (by omega), if_neg (by omega)]
  · rw [if_neg h, T1 r h5.1 (by omega)]
theorem qStepR_top (hO : qOK r K) {p : Int} (hp : 0 ≤ p ∧ p < r 1) {j : Nat} (hj : 1190 ≤ j) : (qStepR r p) j = r j := by
  have h1 := hO.2.1
  have h5 := hO.2.2.2.2.2.1
  have hOp := hO.p hp
  have h7 := hOp.2.2.2.2.2.2.2.1
  have h8 := hOp.2.2.2.2.2.2.2.2.1
  obtain ⟨A1, A2, A3, A4⟩ := qMade_facts (k := 7) (v := rp r p 7 + 1) hO hp (by omega) (by omega)
  obtain ⟨C1, C2, C3, C4⟩ := qMade_facts (k := 8) (v := rp r p 8 + 1) hO hp (by omega) (by omega)
  have m5 : 0 ≤ (qMade r p) 5 ∧ (qMade r p) 5 ≤ 40 := by unfold qMade; rw [A4 5 (by omega)]; exact h5
  have w5 : 0 ≤ (qWait r p) 5 ∧ (qWait r p) 5 ≤ 40 := by unfold qWait; rw [C4 5 (by omega)]; exact h5
  have mj : (qMade r p) j = r j := rsp_top (by omega) (by omega) hj
  have wj : (qWait r p) j = r j := rsp_top (by omega) (by omega) hj
  unfold qStepR
  by_cases hin : rp r p 2 < rp r p 3
  · rw [if_pos hin]
    by_cases hf : qFault r p = 0
    · rw [if_pos hf]
      by_cases hb : 0 < qBlock r p
      · rw [if_pos hb, qTr_top w5 hj, wj]
      · rw [if_neg hb]
        obtain ⟨B1, B2, B3, B4, B5⟩ := qPre_facts hO hp hin
        have hC := qPre_can hO hp hin hf
        have hpp : 0 ≤ p ∧ p < (qPre r p) 1 := by rw [B4 1 (by omega)]; exact hp
        refine (qDoes_off B1 hpp hC gS90.s1 (j := j) (decide_eq_true hj)).trans ?_
        show (rsp (qTr (qMade r p) p (rp r p 2) 0) p 2 (rp r p 2 + 1)) j = r j
        rw [rsp_top (by omega) (by omega) hj, qTr_top m5 hj, mj]
    · rw [if_neg hf, rsp_top (by omega) (by omega) hj, rsp_top (by omega) (by omega) hj, qTr_top m5 hj, mj]
  · rw [if_neg hin, rsp_top (by omega) (by omega) hj, qTr_top m5 hj, mj]
theorem qTurnN_top {p : Int} {j : Nat} (hj : 1190 ≤ j) : ∀ (n : Nat) (r : gRow) (K : Int), qOK r K → 0 ≤ p ∧ p < r 1 → (qTurnN p n r) j = r j := by
  intro n
  induction n with
  | zero => intro r K hO hp; rfl
  | succ n ih =>
    intro r K hO hp
    unfold qTurnN
    by_cases h0 : rp r p 0 = 0
    · rw [if_pos h0]
      obtain ⟨A1, A2⟩ := qStepR_facts hO hp
      by_cases hb : qStepB r p = 0
      · rw [if_pos hb, qStepR_top hO hp hj]
      · rw [if_neg hb, ih (qStepR r p) (K + 2) A1 (by rw [A2 1 (by omega)]; exact hp), qStepR_top hO hp hj]
    · rw [if_neg h0]
theorem qTurn_top (hO : qOK r K) (hL : ¬ qLive r = -1) {j : Nat} (hj : 1190 ≤ j) : (qTurn r) j = r j := by
  have h1 := hO.2.1
  obtain ⟨hn, -⟩ := qNext_in hO hL
  unfold qTurn qTurnE
  rw [rup_top (by omega) hj, rup_top (by omega) hj, rsp_top (by omega) (by omega) hj, qTurnN_top hj _ r K hO hn]
theorem qGoesN_facts : ∀ (n : Nat) (x : Int) (r : gRow) (K : Int), qOK r K → qOK (qGoesN n x r).2 (K + 20 * n) ∧ (qGoesN n x r).2 0 = r 0 ∧ (qGoesN n x r).2 1 = r 1 ∧ (qGoesN n x r).2 2 = r 2 ∧ ∀ j : Nat, 1190 ≤ j → (qGoesN n x r).2 j = r j := by
  intro n
  induction n with
  | zero => intro x r K hO; exact ⟨hO.mono (by omega), rfl, rfl, rfl, fun _ _ => rfl⟩
  | succ n ih =>
    intro x r K hO
    unfold qGoesN
    by_cases hL : qLive r = -1
    · rw [if_pos hL]; exact ⟨hO.mono (by omega), rfl, rfl, rfl, fun _ _ => rfl⟩
    · rw [if_neg hL]
      obtain ⟨t1, t2, t3, t4⟩ := qTurn_OK hO hL
      obtain ⟨a1, a2, a3, a4, a5⟩ := ih (x + 1) (qTurn r) (K + 20) t1
      exact ⟨a1.mono (by omega), a2.trans t2, a3.trans t3, a4.trans t4, fun j hj => (a5 j hj).trans (qTurn_top hO hL hj)⟩
theorem qGoes_facts (hO : qOK r K) {n : Int} (hn : n ≤ 300) : qOK (qGoes r n).2 (K + 6000) ∧ (qGoes r n).2 0 = r 0 ∧ (qGoes r n).2 1 = r 1 ∧ (qGoes r n).2 2 = r 2 ∧ ∀ j : Nat, 1190 ≤ j → (qGoes r n).2 j = r j := by
  obtain ⟨a1, a2⟩ := qGoesN_facts n.toNat 0 r K hO
  exact ⟨a1.mono (by omega), a2⟩
/-- the row r lies in the reference's row for trying -/
def gTri (a : Nat) (M : gMem) (r : gRow) : Prop := ∀ j : Nat, j < 1190 → M (a + 3) j = r j
/-- what trying leaves alone in the reference -/
def gFt (a : Nat) (M M' : gMem) : Prop := (∀ x : Nat, ¬ x = a → ¬ x = a + 1 → ¬ x = a + 3 → M' x = M x) ∧ ∀ j : Nat, ¬ j = 7 → ¬ j = 17 → M' a j = M a j
theorem gFt.rfl' : gFt a M M := ⟨fun _ _ _ _ => rfl, fun _ _ _ => rfl⟩
theorem gFt.trans {M'' : gMem} (h : gFt a M M') (h' : gFt a M' M'') : gFt a M M'' := ⟨fun x q1 q2 q3 => (h'.1 x q1 q2 q3).trans (h.1 x q1 q2 q3), fun j q1 q2 => (h'.2 j q1 q2).trans (h.2 j q1 q2)⟩
theorem gFt.a7 {v : Int} : gFt a M (gup M a 7 v) := ⟨fun x q1 _ _ => gup_row q1, fun j q1 _ => gup_miss (fun z => q1 z.2)⟩
theorem gFt.a17 {v : Int} : gFt a M (gup M a 17 v) := ⟨fun x q1 _ _ => gup_row q1, fun j _ q1 => gup_miss (fun z => q1 z.2)⟩
theorem m_aside (l1 : g (a + 1) / 16 - 1 = 1190) (l3 : g (a + 3) / 16 - 1 = 1190) : ∃ N, fX9_setsAside g a (mrow M (a + 1) r) = some (mrow N (a + 1) r) ∧ gTri a N r ∧ gFt a M N ∧ N a = M a := by
  unfold fX9_setsAside
  rw [m_copies (by omega) (by omega) (by omega) (by rw [l1]; omega) (by rw [l3]; omega), Option.bind_some, tn0]
  generalize hN : gcp (mrow M (a + 1) r) (a + 1) 0 (a + 3) 0 1190 = N
  have N1 : N (a + 1) = r := by rw [← hN, gcp_row (by omega), mrow_at]
  refine ⟨N, by rw [← N1, mrow_self], fun j hj => ?_, ⟨fun x q1 q2 q3 => ?_, fun j q1 q2 => ?_⟩, ?_⟩
  · rw [← hN, gcp_at hj, mrow_at]
  · rw [← hN, gcp_row q3, mrow_ne q2]
  · rw [← hN, gcp_row (by omega), mrow_ne (by omega)]
  · rw [← hN, gcp_row (by omega), mrow_ne (by omega)]
theorem m_back (l1 : g (a + 1) / 16 - 1 = 1190) (l3 : g (a + 3) / 16 - 1 = 1190) {r' : gRow} (ht : gTri a M r) (he : ∀ j : Nat, 1190 ≤ j → r' j = r j) : fX9_putsBack g a (mrow M (a + 1) r') = some (mrow M (a + 1) r) := by
  unfold fX9_putsBack
  rw [m_copies (by omega) (by omega) (by omega) (by rw [l3]; omega) (by rw [l1]; omega), Option.bind_some, tn0]
  congr 1
  funext x j
  by_cases hx : x = a + 1
  · subst hx
    rw [mrow_at]
    by_cases hj : j < 1190
    · rw [gcp_at hj, mrow_ne (by omega), ht j hj]
    · rw [gcp_miss (by omega), mrow_at, he j (by omega)]
  · rw [gcp_row hx, mrow_ne hx, mrow_ne hx]
theorem mrow_a17 {v : Int} : gup (mrow M (a + 1) r) a 17 v = mrow (gup M a 17 v) (a + 1) r := mrow_up_ne (by omega)
theorem gTri.a17 {v : Int} (h : gTri a M r) : gTri a (gup M a 17 v) r := fun j hj => by rw [gup_row (by omega)]; exact h j hj
end Top
