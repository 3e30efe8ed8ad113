/-! PURE: save, the reference's side; restore -/
/-- the reference's two saved rows -/
def SM (M : gMem) (a : Nat) (fl : Nat → Int) (sv : Nat → gRow) : Prop := ∀ i : Nat, i < 2 → M (a + 6) i = fl i ∧ (fl i = 1 → ∀ j : Nat, j < 1190 → M (a + 5) (1190 * i + j) = sv i j)
def sRestore (r : gRow) (fl : Nat → Int) (sv : Nat → gRow) (x : Int) : (Nat ⊕ Int) × Bool × gRow :=
  if 0 ≤ x ∧ x < 2 then (if fl x.toNat = 0 then (.inl 1, false, r) else (.inr ((sv x.toNat) 3), true, sv x.toNat)) else (.inl 3, false, r)
/-- what saving leaves alone in the reference -/
def gFs (a : Nat) (M M' : gMem) : Prop := (∀ x : Nat, ¬ x = a → ¬ x = a + 1 → ¬ x = a + 5 → ¬ x = a + 6 → M' x = M x) ∧ ∀ j : Nat, ¬ j = 7 → M' a j = M a j
section Rest
variable {M M' : gMem} {a : Nat} {r : gRow} {K K' n : Int} {kept : Nat → gRow} {fl : Nat → Int} {sv : Nat → gRow} {g : Nat → Nat}
theorem SC.frame (hS : SC M a fl sv K) (hm : ∀ x : Nat, a + 653 ≤ x → x ≤ a + 784 → M' x = M x) (hKK : K ≤ K') : SC M' a fl sv K' := by
  intro i hi
  obtain ⟨s1, s2, s3⟩ := hS i hi
  refine ⟨by rw [hm _ (by omega) (by omega)]; exact s1, s2, fun h => ?_⟩
  obtain ⟨o, dd⟩ := s3 h
  exact ⟨o.mono hKK, (dd.frame o (fun x q1 q2 => hm x (by omega) (by omega))).mono hKK⟩
theorem SM.frame (hS : SM M a fl sv) (h5 : M' (a + 5) = M (a + 5)) (h6 : M' (a + 6) = M (a + 6)) : SM M' a fl sv := by
  intro i hi
  rw [h5, h6]
  exact hS i hi
theorem b_save (l1 : g (a + 1) / 16 - 1 = 1190) (l5 : g (a + 5) / 16 - 1 = 2380) (hS : SM M a fl sv) {x : Int} : ∃ N, fX9_save g a x (mrow M (a + 1) r) = some (mrow N (a + 1) r) ∧ SM N a (fun i => if 0 ≤ x ∧ x < 2 ∧ i = x.toNat then 1 else fl i) (fun i => if 0 ≤ x ∧ x < 2 ∧ i = x.toNat then r else sv i) ∧ N a 7 = (if 0 ≤ x ∧ x < 2 then 0 else 1) ∧ gFs a M N := by
  unfold fX9_save fX9_save_15
  rw [m_isIn, Option.bind_some]
  by_cases hx : 0 ≤ x ∧ x < 2
  · rw [if_neg (by rw [qB_t (show 0 ≤ x ∧ x ≤ 1 by omega)]; omega), if_pos hx, gst_eq, mrow_a7, mrow_7, if_pos (Int.le_refl 0), gwi_eq (by omega) (by omega), m_copies (by omega) (by omega) (by omega) (by rw [l1]; omega) (by rw [l5]; omega), Option.bind_some, if_pos hx, gst_eq, tn0]
    generalize hN : gup (gcp (mrow (gup M a 7 0) (a + 1) r) (a + 1) 0 (a + 5) (1190 * x).toNat 1190) (a + 6) x.toNat 1 = N
    have N1 : N (a + 1) = r := by rw [← hN, gup_row (by omega), gcp_row (by omega), mrow_at]
    have N7 : N a 7 = 0 := by rw [← hN, gup_row (by omega), gcp_row (by omega), mrow_7]
    refine ⟨N, by rw [← N1, mrow_self], fun i hi => ?_, N7, ⟨fun y q1 q4 q2 q3 => ?_, fun j q => ?_⟩⟩
    · obtain ⟨s1, s2⟩ := hS i hi
      by_cases e : i = x.toNat
      · simp only [if_pos (show 0 ≤ x ∧ x < 2 ∧ i = x.toNat from ⟨hx.1, hx.2, e⟩)]
        refine ⟨by rw [← hN]; exact gup_hit rfl e, fun _ j hj => ?_⟩
        rw [← hN, gup_row (by omega), gcp_hit ⟨rfl, by omega, by omega⟩, mrow_at]
        congr 1
        omega
      · simp only [if_neg (show ¬ (0 ≤ x ∧ x < 2 ∧ i = x.toNat) from fun z => e z.2.2)]
        refine ⟨?_, fun h j hj => ?_⟩
        · rw [← hN, gup_miss (fun z => e z.2), gcp_row (by omega), mrow_ne (by omega), gup_row (by omega)]; exact s1
        · rw [← hN, gup_row (by omega), gcp_miss (by omega), mrow_ne (by omega), gup_row (by omega)]; exact s2 h j hj
    · rw [← hN, gup_row q3, gcp_row q2, mrow_ne q4, gup_row q1]
    · rw [← hN, gup_row (by omega), gcp_row (by omega), mrow_ne (by omega), gup_miss (fun z => q z.2)]
  · rw [if_pos (qB_f (show ¬ (0 ≤ x ∧ x ≤ 1) by omega)), if_neg hx, gst_eq, mrow_a7, mrow_7, if_neg (by omega)]
    have hc : ∀ i : Nat, ¬ (0 ≤ x ∧ x < 2 ∧ i = x.toNat) := fun i z => hx ⟨z.1, z.2.1⟩
    simp only [if_neg (hc _)]
    exact ⟨_, rfl, hS.frame (gup_row (by omega)) (gup_row (by omega)), gup_hit rfl rfl, ⟨fun y q1 _ _ _ => gup_row q1, fun j q => gup_miss (fun z => q z.2)⟩⟩
theorem a_restore (hO : qOK r K) (hD : DR M (a + 1) r K) (hKC : KC M (a + 131) n kept K) (hn : 0 ≤ n ∧ n ≤ 8) (hS : SC M a fl sv K) {x : Int} : ∃ M', fX8_restore g a x M = some ((sRestore r fl sv x).1, M') ∧ DR M' (a + 1) (sRestore r fl sv x).2.2 K ∧ qOK (sRestore r fl sv x).2.2 K ∧ KC M' (a + 131) (qN (sRestore r fl sv x).2.1 n) (qK (sRestore r fl sv x).2.1 r kept) K ∧ gFd a M M' := by
  unfold fX8_restore sRestore
  by_cases hx : 0 ≤ x ∧ x < 2
  · obtain ⟨s1, s2, s3⟩ := hS x.toNat (by omega)
    rw [if_neg (by omega), if_neg (by omega), if_pos hx.2, if_pos hx, if_pos hx, s1]
    by_cases h0 : fl x.toNat = 0
    · rw [if_pos h0, if_pos h0]
      exact ⟨M, rfl, hD, hO, hKC, gFd.rfl'⟩
    · obtain ⟨o, dd⟩ := s3 (s2.resolve_left h0)
      obtain ⟨M1, e1, D1, K1, F1⟩ := c_keep (g := g) hO hD hKC hn
      have d1 : DR M1 (a + 653 + (1 + 65 * x.toNat)) (sv x.toNat) K := dd.frame o (fun y q1 q2 => F1 y (by omega))
      obtain ⟨M2, e2, D2, F2⟩ := c_copyFrom (g := g) (d' := a + 1) (by omega) o d1
      rw [if_neg h0, if_neg h0, e1, Option.bind_some, if_pos hx, e2, Option.bind_some, D2.1.2.2.2.1]
      exact ⟨M2, rfl, D2, o, K1.desk F2 (Int.le_refl K), F1.trans F2.gFd⟩
  · simp only [if_neg hx]
    refine ⟨M, ?_, hD, hO, hKC, gFd.rfl'⟩
    by_cases h1 : x < 0
    · rw [if_pos h1]
    · rw [if_neg h1, if_pos (by omega)]
theorem b_restore (l1 : g (a + 1) / 16 - 1 = 1190) (l4 : g (a + 4) / 16 - 1 = 9520) (l5 : g (a + 5) / 16 - 1 = 2380) (hK : KM M a n kept) (hS : SM M a fl sv) (hfl : ∀ i : Nat, i < 2 → fl i = 0 ∨ fl i = 1) {x : Int} : ∃ N r', fX9_restore g a x (mrow M (a + 1) r) = some (qWert (sRestore r fl sv x).1, mrow N (a + 1) r') ∧ qEq (sRestore r fl sv x).2.2 r' ∧ KM N a (qN (sRestore r fl sv x).2.1 n) (qK (sRestore r fl sv x).2.1 r kept) ∧ N a 7 = qThr 3 (sRestore r fl sv x).1 ∧ gFm a M N := by
  unfold fX9_restore sRestore fX9_restore_28
  rw [m_isIn, Option.bind_some]
  by_cases hx : 0 ≤ x ∧ x < 2
  · obtain ⟨s1, s2⟩ := hS x.toNat (by omega)
    have e6 : mrow M (a + 1) r (a + 6) x.toNat = fl x.toNat := by rw [mrow_ne (by omega)]; exact s1
    rw [if_neg (by rw [qB_t (show 0 ≤ x ∧ x ≤ 1 by omega)]; omega), if_pos hx, if_pos hx, e6]
    by_cases h0 : fl x.toNat = 0
    · rw [if_pos h0, if_pos h0, gst_eq, mrow_a7, mrow_7, if_neg (by omega)]
      exact ⟨_, r, rfl, fun _ _ => rfl, hK.a7, gup_hit rfl rfl, gFm.a7⟩
    · obtain ⟨N1, e1, K1, F1, v7⟩ := m_keep (g := g) (r := r) l1 l4 (hK.a7 (v := 0))
      have h1 : fl x.toNat = 1 := (hfl x.toNat (by omega)).resolve_left h0
      rw [if_neg h0, if_neg h0, gst_eq, mrow_a7, mrow_7, if_pos (Int.le_refl 0), e1, Option.bind_some, gwi_eq (by omega) (by omega), m_copies (by omega) (by omega) (by omega) (by rw [l5]; omega) (by rw [l1]; omega), Option.bind_some, if_pos (by omega), tn0]
      generalize hN : gcp (mrow N1 (a + 1) r) (a + 5) (1190 * x).toNat (a + 1) 0 1190 = N
      have h5 : N1 (a + 5) = M (a + 5) := by rw [F1.1 (a + 5) (by omega) (by omega) (by omega), gup_row (by omega)]
      have R : qEq (sv x.toNat) (N (a + 1)) := fun j hj => by
        rw [← hN, gcp_hit ⟨rfl, by omega, by omega⟩, mrow_ne (by omega), h5, ← s2 h1 j hj]
        congr 1
        omega
      have fr : ∀ y : Nat, ¬ y = a + 1 → N y = N1 y := fun y q => by rw [← hN, gcp_row q, mrow_ne q]
      refine ⟨N, N (a + 1), ?_, R, ?_, ?_, ⟨fun y q1 q2 q3 => ?_, fun j q1 q2 => ?_⟩⟩
      · rw [mrow_self, R (3 : Int).toNat (by decide)]
        rfl
      · obtain ⟨k1, k2, k3⟩ := K1
        exact ⟨by rw [fr a (by omega)]; exact k1, k2, fun b hb j hj => by rw [fr (a + 4) (by omega)]; exact k3 b hb j hj⟩
      · rw [fr a (by omega), v7]; exact gup_hit rfl rfl
      · rw [fr y q2, F1.1 y q1 q2 q3, gup_row q1]
      · rw [fr a (by omega), F1.2 j q1 q2, gup_miss (fun z => q2 z.2)]
  · rw [if_pos (qB_f (show ¬ (0 ≤ x ∧ x ≤ 1) by omega)), if_neg hx, gst_eq, mrow_a7, mrow_7, if_neg (by omega)]
    exact ⟨_, r, rfl, fun _ _ => rfl, hK.a7, gup_hit rfl rfl, gFm.a7⟩
end Rest
