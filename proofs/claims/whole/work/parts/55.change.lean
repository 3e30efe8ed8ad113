/-! PURE: calls that change the desk -/
/-- the reference's state: its row, and what it keeps -/
def MS (M : gMem) (a : Nat) (r : gRow) (n : Int) (kept : Nat → gRow) : Prop := M (a + 1) = r ∧ KM M a n kept
/-- what such a call leaves alone in the reference -/
def gFm (a : Nat) (M M' : gMem) : Prop := (∀ x : Nat, ¬ x = a → ¬ x = a + 1 → ¬ x = a + 4 → M' x = M x) ∧ ∀ j : Nat, ¬ j = 6 → ¬ j = 7 → M' a j = M a j
/-- and in the class (x at a: its desk at a + 1, its history at a + 131) -/
def gFd (a : Nat) (M M' : gMem) : Prop := ∀ x : Nat, x < a + 1 ∨ (a + 66 ≤ x ∧ x < a + 131) ∨ a + 653 ≤ x → M' x = M x
def qSel {α : Type} (b : Bool) (x y : α) : α := if b = true then x else y
/-- how many are kept after a call, and which -/
def qN (b : Bool) (n : Int) : Int := if b = true then gmin (n + 1) 8 else n
def qK (b : Bool) (r : gRow) (kept : Nat → gRow) : Nat → gRow := if b = true then qKeep r kept else kept
def sSetTurn (r : gRow) (p x : Int) : (Nat ⊕ Int) × Bool × gRow :=
  if 0 ≤ p ∧ p < r 1 then (if 1 ≤ x ∧ x ≤ 9 then (.inr (rp r p 4), true, rsp r p 4 x) else (.inl 2, false, r)) else (.inl 3, false, r)
def sWake (r : gRow) (p : Int) : (Nat ⊕ Int) × Bool × gRow :=
  if 0 ≤ p ∧ p < r 1 then (if rp r p 0 = 0 then (.inr (-15), false, r) else (.inr (rp r p 0), true, rsp (rsp (rsp r p 0 0) p 2 0) p 1 0)) else (.inl 3, false, r)
def sRun (r : gRow) (n : Int) : (Nat ⊕ Int) × Bool × gRow :=
  if 1 ≤ n ∧ n ≤ 300 then (.inr (qGoes r n).1, true, (qGoes r n).2) else (.inl 2, false, r)
section Change
variable {M M' : gMem} {d h a : Nat} {r : gRow} {K K' n : Int} {kept : Nat → gRow} {g : Nat → Nat}
theorem gFd.rfl' : gFd a M M := fun _ _ => rfl
theorem gFd.trans {M'' : gMem} (h : gFd a M M') (h' : gFd a M' M'') : gFd a M M'' := fun x q => (h' x q).trans (h x q)
theorem gFr.gFd (hf : gFr (a + 1) M M') : gFd a M M' := fun x q => hf x (by omega)
theorem KC.frame (hK : KC M h n kept K) (hm : ∀ x : Nat, h ≤ x → x < h + 522 → M' x = M x) (hKK : K ≤ K') : KC M' h n kept K' := by
  obtain ⟨k1, k2, k3⟩ := hK
  unfold KC
  rw [hm h (by omega) (by omega)]
  refine ⟨k1, k2, fun b hb => ?_⟩
  obtain ⟨o, dd⟩ := k3 b hb
  exact ⟨o.mono hKK, (dd.frame o (fun x q1 q2 => hm x (by omega) (by omega))).mono hKK⟩
theorem c_keep (hO : qOK r K) (hD : DR M (a + 1) r K) (hKC : KC M (a + 131) n kept K) (hn : 0 ≤ n ∧ n ≤ 8) : ∃ M', fX1_remember g (a + 131) (a + 1) M = some M' ∧ DR M' (a + 1) r K ∧ KC M' (a + 131) (gmin (n + 1) 8) (qKeep r kept) K ∧ gFd a M M' := by
  obtain ⟨M1, e1, K1, F1⟩ := c_remember (g := g) (d := a + 1) (h := a + 131) hO hD (by omega) hKC hn
  exact ⟨M1, e1, hD.frame hO (fun x q1 q2 => F1 x (by omega)), K1, fun x q => F1 x (by omega)⟩
theorem KC.desk (hK : KC M (a + 131) n kept K) (hf : gFr (a + 1) M M') (hKK : K ≤ K') : KC M' (a + 131) n kept K' := hK.frame (fun x q1 q2 => hf x (by omega)) hKK
theorem a_setTurn (hO : qOK r K) (hD : DR M (a + 1) r K) (hKC : KC M (a + 131) n kept K) (hn : 0 ≤ n ∧ n ≤ 8) {p x : Int} : ∃ M', fX8_setTurn g a p x M = some ((sSetTurn r p x).1, M') ∧ DR M' (a + 1) (sSetTurn r p x).2.2 K ∧ qOK (sSetTurn r p x).2.2 K ∧ KC M' (a + 131) (qN (sSetTurn r p x).2.1 n) (qK (sSetTurn r p x).2.1 r kept) K ∧ gFd a M M' := by
  unfold fX8_setTurn sSetTurn
  rw [c_exP hO hD]
  by_cases hp : 0 ≤ p ∧ p < r 1
  · rw [if_pos hp, if_pos hp]
    show ∃ M', (if x < 1 then _ else _) = _ ∧ _
    by_cases hx : 1 ≤ x ∧ x ≤ 9
    · obtain ⟨M1, e1, D1, K1, F1⟩ := c_keep (g := g) hO hD hKC hn
      have hP := D1.2.1 p hp.1 hp.2
      have D2 := DR_p (k := 4) (v := x) hO D1 hp (by omega) (Int.le_refl K)
      have F2 : gFr (a + 1) M1 (gup M1 (a + 1 + 1 + (8 + 4 * p.toNat)) 5 x) := gFr.up (by have := hO.2.1; omega)
      rw [if_neg (by omega), if_pos hx.2, e1, Option.bind_some, if_pos hx, hP.f.2.2.2.2.1]
      exact ⟨_, rfl, D2, qOK_rsp hO (Int.le_refl K) hp (by unfold qVal; omega), K1.desk F2 (Int.le_refl K), F1.trans F2.gFd⟩
    · rw [if_neg hx]
      refine ⟨M, ?_, hD, hO, hKC, gFd.rfl'⟩
      by_cases h1 : x < 1
      · rw [if_pos h1]
      · rw [if_neg h1, if_neg (by omega)]
  · rw [if_neg hp, if_neg hp]
    exact ⟨M, rfl, hD, hO, hKC, gFd.rfl'⟩
theorem a_wake (hO : qOK r K) (hD : DR M (a + 1) r K) (hKC : KC M (a + 131) n kept K) (hn : 0 ≤ n ∧ n ≤ 8) {p : Int} : ∃ M', fX8_wake g a p M = some ((sWake r p).1, M') ∧ DR M' (a + 1) (sWake r p).2.2 K ∧ qOK (sWake r p).2.2 K ∧ KC M' (a + 131) (qN (sWake r p).2.1 n) (qK (sWake r p).2.1 r kept) K ∧ gFd a M M' := by
  have h1 := hO.2.1
  unfold fX8_wake sWake
  rw [c_exP hO hD]
  by_cases hp : 0 ≤ p ∧ p < r 1
  · rw [if_pos hp, if_pos hp]
    show ∃ M', (if M (a + 1 + 1 + (8 + 4 * p.toNat)) 8 = 0 then _ else _) = _ ∧ _
    rw [(hD.2.1 p hp.1 hp.2).f.1]
    by_cases h0 : rp r p 0 = 0
    · rw [if_pos h0, if_pos h0]
      exact ⟨M, rfl, hD, hO, hKC, gFd.rfl'⟩
    · obtain ⟨M1, e1, D1, K1, F1⟩ := c_keep (g := g) hO hD hKC hn
      have hP := D1.2.1 p hp.1 hp.2
      have O2 := qOK_rsp (k := 0) (v := 0) hO (Int.le_refl K) hp (by unfold qVal; omega)
      have D2 := DR_p (k := 0) (v := 0) hO D1 hp (by omega) (Int.le_refl K)
      have p2 : 0 ≤ p ∧ p < (rsp r p 0 0) 1 := by rw [show (rsp r p 0 0) 1 = r 1 from rsp_lo (by omega) (by omega) (by omega)]; exact hp
      have O3 := qOK_rsp (k := 2) (v := 0) O2 (Int.le_refl K) p2 (by unfold qVal; omega)
      have D3 := DR_p (k := 2) (v := 0) O2 D2 p2 (by omega) (Int.le_refl K)
      have p3 : 0 ≤ p ∧ p < (rsp (rsp r p 0 0) p 2 0) 1 := by rw [show (rsp (rsp r p 0 0) p 2 0) 1 = (rsp r p 0 0) 1 from rsp_lo (by omega) (by omega) (by omega)]; exact p2
      have O4 := qOK_rsp (k := 1) (v := 0) O3 (Int.le_refl K) p3 (by unfold qVal; omega)
      have D4 := DR_p (k := 1) (v := 0) O3 D3 p3 (by omega) (Int.le_refl K)
      have F2 : ∀ (N : gMem) (j : Nat), gFr (a + 1) N (gup N (a + 1 + 1 + (8 + 4 * p.toNat)) j 0) := fun N j => gFr.up (by omega)
      rw [if_neg h0, if_neg h0, e1, Option.bind_some, hP.f.1]
      exact ⟨_, rfl, D4, O4, K1.desk (((F2 _ _).trans (F2 _ _)).trans (F2 _ _)) (Int.le_refl K), F1.trans (((F2 _ _).trans (F2 _ _)).trans (F2 _ _)).gFd⟩
  · rw [if_neg hp, if_neg hp]
    exact ⟨M, rfl, hD, hO, hKC, gFd.rfl'⟩
theorem a_run (hO : qOK r K) (hK : K ≤ 90000000) (hD : DR M (a + 1) r K) (hKC : KC M (a + 131) n kept K) (hn : 0 ≤ n ∧ n ≤ 8) {x : Int} : ∃ M', fX8_run g a x M = some ((sRun r x).1, M') ∧ DR M' (a + 1) (sRun r x).2.2 (K + 12000) ∧ qOK (sRun r x).2.2 (K + 12000) ∧ KC M' (a + 131) (qN (sRun r x).2.1 n) (qK (sRun r x).2.1 r kept) (K + 12000) ∧ gFd a M M' := by
  unfold fX8_run sRun
  by_cases hx : 1 ≤ x ∧ x ≤ 300
  · obtain ⟨M1, e1, D1, K1, F1⟩ := c_keep (g := g) hO hD hKC hn
    obtain ⟨M2, e2, D2, O2, F2⟩ := c_advance (g := g) (n := x) hO hK D1 (by omega)
    rw [if_neg (by omega), if_pos hx.2, e1, Option.bind_some, e2, Option.bind_some, if_pos hx]
    exact ⟨M2, rfl, D2.mono (by omega), O2.mono (by omega), K1.desk F2 (by omega), F1.trans F2.gFd⟩
  · rw [if_neg hx]
    refine ⟨M, ?_, hD.mono (by omega), hO.mono (by omega), hKC.frame (fun _ _ _ => rfl) (by omega), gFd.rfl'⟩
    by_cases h1 : x < 1
    · rw [if_pos h1]
    · rw [if_neg h1, if_neg (by omega)]
end Change
