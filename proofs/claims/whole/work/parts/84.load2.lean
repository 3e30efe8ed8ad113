/-! PURE: load -/
section Load2
variable {M M' : gMem} {a : Nat} {r : gRow} {n : Int} {kept : Nat → gRow} {g : Nat → Nat}
theorem m_asides50 (l1 : g (a + 2) / 16 - 1 = 1190) (l4 : g (a + 4) / 16 - 1 = 9520) (h6 : M a 6 = n) (hn : 0 ≤ n ∧ n ≤ 7) (hk : ∀ b : Nat, (b : Int) < n → ∀ j : Nat, j < 1190 → M (a + 4) (1190 * (n.toNat - 1 - b) + j) = kept b j) : ∃ M', fX9_keeps_50 g a (a + 2) M = some M' ∧ KM M' a (n + 1) (qKeep (M (a + 2)) kept) ∧ gFk a M M' := by
  refine ⟨gup (gcp M (a + 2) 0 (a + 4) (1190 * n).toNat 1190) a 6 (n + 1), ?_, ⟨gup_hit rfl rfl, by omega, fun b hb j hj => ?_⟩, ⟨fun x q1 q2 => by rw [gup_row q1, gcp_row q2], fun j hj => by rw [gup_miss (fun z => hj z.2), gcp_row (by omega)]⟩⟩
  · unfold fX9_keeps_50
    rw [h6, gwi_eq (by omega) (by omega), m_copies (by omega) (by omega) (by omega) (by rw [l1]; omega) (by rw [l4]; omega), Option.bind_some, tn0, gst_eq, gcp_row (by omega), h6, gwi_eq (by omega) (by omega)]
  · rw [gup_row (by omega)]
    cases b with
    | zero =>
      rw [gcp_hit ⟨rfl, by omega, by omega⟩]
      show M (a + 2) _ = M (a + 2) j
      congr 1
      omega
    | succ b =>
      have := hk b (by omega) j hj
      rw [gcp_miss (by omega)]
      show M (a + 4) _ = kept b j
      rw [← this]
      congr 2
      omega
theorem m_asides11 : ∀ (n : Nat) (i : Nat) (fu : Nat), i + n = 8330 → n < fu → fX9_keeps_11 g fu a (a + 2) (i : Int) (gcp M (a + 4) 1190 (a + 4) 0 i) = (gst (gup (gcp M (a + 4) 1190 (a + 4) 0 8330) a 6 (gwi (gcp M (a + 4) 1190 (a + 4) 0 8330 a 6 - 1))) fun M_3 => fX9_keeps_50 g a (a + 2) M_3) := by
  intro n
  induction n with
  | zero =>
    intro i fu hs hf
    obtain ⟨fu, rfl⟩ := fuS hf
    unfold fX9_keeps_11
    have : i = 8330 := by omega
    rw [if_pos (by omega), this]
  | succ n ih =>
    intro i fu hs hf
    obtain ⟨fu, rfl⟩ := fuS hf
    unfold fX9_keeps_11
    have e : gup (gcp M (a + 4) 1190 (a + 4) 0 i) (a + 4) (i : Int).toNat (gcp M (a + 4) 1190 (a + 4) 0 i (a + 4) ((i : Int) + 1190).toNat) = gcp M (a + 4) 1190 (a + 4) 0 (i + 1) := by
      rw [show gcp M (a + 4) 1190 (a + 4) 0 i (a + 4) ((i : Int) + 1190).toNat = M (a + 4) ((i : Int) + 1190).toNat from gcp_miss (by omega)]
      funext b j
      unfold gup
      by_cases hb : b = a + 4 ∧ j = (i : Int).toNat
      · rw [if_pos hb, gcp_hit ⟨hb.1, by omega, by omega⟩]
        have : ((i : Int) + 1190).toNat = 1190 + (j - 0) := by omega
        rw [this]
      · rw [if_neg hb]
        unfold gcp
        by_cases h2 : b = a + 4 ∧ 0 ≤ j ∧ j < 0 + i
        · rw [if_pos h2, if_pos ⟨h2.1, h2.2.1, by omega⟩]
        · rw [if_neg h2, if_neg (by omega)]
    rw [if_neg (by omega), gwi_eq (x := (i : Int) + 1190) (by omega) (by omega), if_pos (by omega), if_pos (by omega), gst_eq, gst_eq, gwi_eq (by omega) (by omega), e]
    exact ih (i + 1) fu (by omega) (by omega)
theorem m_asides (l1 : g (a + 2) / 16 - 1 = 1190) (l4 : g (a + 4) / 16 - 1 = 9520) (hK : KM M a n kept) : ∃ M', fX9_keeps g a (a + 2) M = some M' ∧ KM M' a (gmin (n + 1) 8) (qKeep (M (a + 2)) kept) ∧ gFk a M M' := by
  obtain ⟨k1, k2, k3⟩ := hK
  unfold fX9_keeps
  rw [k1]
  by_cases h8 : n = 8
  · have e0 : gcp M (a + 4) 1190 (a + 4) 0 0 = M := by
      funext b j
      exact gcp_miss (by omega)
    have L := m_asides11 (g := g) (a := a) (M := M) 8330 0 gF (by omega) (by unfold gF; omega)
    rw [e0] at L
    have e6 : gcp M (a + 4) 1190 (a + 4) 0 8330 a 6 = 8 := by rw [gcp_row (by omega), k1, h8]
    rw [e6, gst_eq, gwi_eq (x := 8 - 1) (by omega) (by omega)] at L
    have S := m_asides50 (g := g) (a := a) (M := gup (gcp M (a + 4) 1190 (a + 4) 0 8330) a 6 7) (n := 7) (kept := kept) l1 l4 (gup_hit rfl rfl) (by omega) (fun b hb j hj => by
      rw [gup_row (by omega), gcp_hit ⟨rfl, by omega, by omega⟩]
      have := k3 b (by omega) j hj
      rw [← this]
      exact congrArg (M (a + 4)) (show 1190 + (1190 * ((7 : Int).toNat - 1 - b) + j - 0) = 1190 * (n.toNat - 1 - b) + j by omega))
    obtain ⟨M', e1, K1, F1, F2⟩ := S
    have er : gup (gcp M (a + 4) 1190 (a + 4) 0 8330) a 6 7 (a + 2) = M (a + 2) := by rw [gup_row (by omega), gcp_row (by omega)]
    rw [er] at K1
    refine ⟨M', ?_, ?_, ⟨fun x q1 q2 => by rw [F1 x q1 q2, gup_row q1, gcp_row q2], fun j hj => by rw [F2 j hj, gup_miss (fun z => hj z.2), gcp_row (by omega)]⟩⟩
    · rw [if_pos h8]
      exact (show fX9_keeps_11 g gF a (a + 2) 0 M = _ from L).trans e1
    · have : gmin (n + 1) 8 = 7 + 1 := by unfold gmin; split <;> omega
      rw [this]; exact K1
  · obtain ⟨M', e1, K1, F1⟩ := m_asides50 (g := g) (a := a) (M := M) (n := n) (kept := kept) l1 l4 k1 (by omega) k3
    refine ⟨M', by rw [if_neg h8]; exact e1, ?_, F1⟩
    have : gmin (n + 1) 8 = n + 1 := by unfold gmin; split <;> omega
    rw [this]; exact K1
theorem KM.cong {kept' : Nat → gRow} (h : KM M a n kept) (hk : ∀ b j : Nat, j < 1190 → kept b j = kept' b j) : KM M a n kept' := by
  obtain ⟨h1, h2, h3⟩ := h
  exact ⟨h1, h2, fun b hb j hj => by rw [← hk b j hj]; exact h3 b hb j hj⟩
theorem KM.frame (h : KM M a n kept) (h6 : M' a 6 = M a 6) (h4 : M' (a + 4) = M (a + 4)) : KM M' a n kept := by
  obtain ⟨k1, k2, k3⟩ := h
  exact ⟨by rw [h6]; exact k1, k2, fun b hb j hj => by rw [h4]; exact k3 b hb j hj⟩
end Load2
/-- what load leaves alone in the reference, and in the class -/
def gLm (a : Nat) (M M' : gMem) : Prop := (∀ y : Nat, ¬ y = a → ¬ y = a + 1 → ¬ y = a + 2 → ¬ y = a + 4 → M' y = M y) ∧ ∀ j : Nat, j < 6 ∨ j = 8 ∨ 16 < j → M' a j = M a j
def gLc (c : Nat) (M M' : gMem) : Prop := ∀ y : Nat, y < c + 1 ∨ (c + 66 ≤ y ∧ y < c + 131) ∨ (c + 653 ≤ y ∧ y < c + 785) ∨ c + 852 ≤ y → M' y = M y
section Load3
variable {M M' Mc Mm : gMem} {a c : Nat} {x : gRow} {n n' K : Int} {g : Nat → Nat} {r : gRow} {kept : Nat → gRow}
theorem t_load (l1 : g (a + 1) / 16 - 1 = 1190) (l2 : g (a + 2) / 16 - 1 = 1190) (l4 : g (a + 4) / 16 - 1 = 9520) (hX : BX x n) (hBc : BC Mc (c + 785) x n) (hBm : BM Mm a x n) (hK0 : 0 ≤ K) (hO : qOK r K) (hD : DR Mc (c + 1) r K) (hKC : KC Mc (c + 131) n' kept K) (hn : 0 ≤ n' ∧ n' ≤ 8) (hr : Mm (a + 1) = r) (hKM : KM Mm a n' kept) :
    ∃ v Mc' Mm' r' chg ep, fX8_load g c Mc = some (v, Mc') ∧ fX9_load g a Mm = some (v, Mm') ∧ Mm' (a + 1) = r' ∧ qOK r' K ∧ DR Mc' (c + 1) r' K ∧ KC Mc' (c + 131) (qN chg n') (qK chg r kept) K ∧ KM Mm' a (qN chg n') (qK chg r kept) ∧ Mc' (c + 785) 4 = ep ∧ Mm' a 16 = ep ∧ Mc' (c + 785) 2 = 0 ∧ Mm' a 9 = 0 ∧ Mm' a 7 = 0 ∧ gLc c Mc Mc' ∧ gLm a Mm Mm' := by
  have hx := hX.1
  -- the reference up to its begun row
  generalize hA : gcp (gup (gup (gup Mm a 7 0) a 11 0) a 14 0) (a + 1) 0 (a + 2) 0 1190 = A
  obtain ⟨r0, eB, hq⟩ := m_begins (g := g) (M := A) (a := a)
  have eL : fX9_load g a Mm = fReadM g a (mrow A (a + 1) r0) := by
    unfold fX9_load
    simp only [gst_eq]
    rw [m_copies (by omega) (by omega) (by omega) (by rw [l1]; omega) (by rw [l2]; omega), Option.bind_some, tn0, hA, eB, Option.bind_some]
    rfl
  have Aa : ∀ j : Nat, ¬ j = 7 → ¬ j = 11 → ¬ j = 14 → A a j = Mm a j := fun j q1 q2 q3 => by rw [← hA, gcp_row (by omega), gup_miss (by omega), gup_miss (by omega), gup_miss (by omega)]
  have A7 : A a 7 = 0 := by rw [← hA, gcp_row (by omega), gup_miss (by omega), gup_miss (by omega)]; exact gup_hit rfl rfl
  have A11 : A a 11 = 0 := by rw [← hA, gcp_row (by omega), gup_miss (by omega)]; exact gup_hit rfl rfl
  have A14 : A a 14 = 0 := by rw [← hA, gcp_row (by omega)]; exact gup_hit rfl rfl
  have Ar : ∀ y : Nat, ¬ y = a → ¬ y = a + 2 → A y = Mm y := fun y q1 q2 => by rw [← hA, gcp_row q2, gup_row q1, gup_row q1, gup_row q1]
  have A2 : ∀ j : Nat, j < 1190 → A (a + 2) j = r j := fun j hj => by rw [← hA, gcp_at hj, gup_row (by omega), gup_row (by omega), gup_row (by omega), hr]
  have hBA : BM (mrow A (a + 1) r0) a x n := ⟨by rw [mrow_ne (by omega), Aa 9 (by omega) (by omega) (by omega)]; exact hBm.1, fun k q1 q2 => by rw [mrow_ne (by omega), Ar (a + 7) (by omega) (by omega)]; exact hBm.2 k q1 q2⟩
  have RD := t_read (g := g) (r0 := A (a + 1)) hX hBc hBA (by rw [mrow_ne (by omega)]; exact A11) (by rw [mrow_ne (by omega)]; exact A14) (fun v => by rw [mrow_at]; exact hq v)
  rw [eL]
  unfold fX8_load
  rcases RD with ⟨M1, N1, r', e1, e2, q1, q2, q3, q4, q5, q6, F1, F2⟩ | ⟨M1, N1, e1, e2, E, F1, F2⟩
  · -- no error
    have fa : ∀ j : Nat, j < 10 ∨ 15 < j → N1 a j = A a j := fun j q => by rw [F2.2 j q, mrow_ne (by omega)]
    have fy : ∀ y : Nat, ¬ y = a → ¬ y = a + 1 → N1 y = A y := fun y w1 w2 => by rw [F2.1 y w1 w2, mrow_ne w2]
    have b3 : M1 (c + 785) 4 = -1 := by rw [q6, gup_miss (by omega)]; exact gup_hit rfl rfl
    generalize hM2 : gup M1 (c + 785) 2 0 = M2
    have f2 : ∀ y : Nat, ¬ y = c + 785 → M2 y = M1 y := fun y q => by rw [← hM2]; exact gup_row q
    have f1 : ∀ y : Nat, y < c + 785 ∨ c + 852 ≤ y → M2 y = Mc y := fun y q => by rw [f2 y (by omega), F1 y (by omega), gup_row (by omega), gup_row (by omega), gup_row (by omega)]
    have hD2 : DR M2 (c + 1) r K := hD.frame hO (fun y w1 w2 => f1 y (by omega))
    have hKC2 : KC M2 (c + 131) n' kept K := hKC.frame (fun y w1 w2 => f1 y (by omega)) (Int.le_refl K)
    obtain ⟨M3, e3, D3, K3, F3⟩ := c_keep (g := g) hO hD2 hKC2 hn
    have hDr : DR M3 (c + 785 + 2) r' 0 := q4.frame q3 (fun y w1 w2 => by rw [F3 y (by omega), f2 y (by omega)])
    obtain ⟨M4, e4, D4, F4⟩ := c_copyFrom (g := g) (d := c + 785 + 2) (d' := c + 1) (by omega) q3 hDr
    -- the reference
    have a9 : gup (gup N1 a 16 (-1)) a 9 0 a 14 = 0 := by rw [gup_miss (by omega), gup_miss (by omega)]; exact q1
    generalize hN2 : gup (gup N1 a 16 (-1)) a 9 0 = N2
    rw [hN2] at a9
    have g2 : ∀ y : Nat, ¬ y = a → N2 y = N1 y := fun y q => by rw [← hN2, gup_row q, gup_row q]
    have g2a : ∀ j : Nat, ¬ j = 16 → ¬ j = 9 → N2 a j = N1 a j := fun j w1 w2 => by rw [← hN2, gup_miss (by omega), gup_miss (by omega)]
    have KM2 : KM N2 a n' kept := hKM.frame (by rw [g2a 6 (by omega) (by omega), fa 6 (by omega), Aa 6 (by omega) (by omega) (by omega)]) (by rw [g2 _ (by omega), fy _ (by omega) (by omega), Ar _ (by omega) (by omega)])
    obtain ⟨N3, e5, K5, F5⟩ := m_asides (g := g) (a := a) (n := n') (kept := kept) l2 l4 KM2
    have hrow : N3 (a + 1) = r' := by rw [F5.1 (a + 1) (by omega) (by omega), g2 _ (by omega)]; exact q2
    have K5' : KM N3 a (gmin (n' + 1) 8) (qKeep r kept) := K5.cong (fun b j hj => by
      cases b with
      | zero =>
        show N2 (a + 2) j = r j
        rw [g2 _ (by omega), fy _ (by omega) (by omega)]
        exact A2 j hj
      | succ b => rfl)
    have eM : fX9_load_125 g a N1 = some (r' 1, N3) := by
      unfold fX9_load_125 fX9_load_141 fX9_load_169
      rw [if_pos q1]
      simp only [gst_eq]
      rw [hN2, if_pos a9, if_pos a9, e5, Option.bind_some, if_pos (by omega), tn1, hrow]
    have hrow5 : M4 (c + 1) 5 = r' 1 := D4.1.2.1
    refine ⟨r' 1, M4, N3, r', true, -1, ?_, by rw [e2, eM], hrow, q3.mono hK0, D4.mono hK0, K3.desk F4 (Int.le_refl K), K5', ?_, ?_, ?_, ?_, ?_, fun y q => ?_, ⟨fun y w1 w2 w3 w4 => ?_, fun j q => ?_⟩⟩
    · rw [e1, Option.bind_some]
      simp only [gst_eq]
      rw [hM2, if_neg (show ¬ (1 : Int) = 0 by omega), e3, Option.bind_some, e4, Option.bind_some, hrow5]
    · rw [F4 _ (by omega), F3 _ (by omega), ← hM2, gup_miss (by omega)]; exact b3
    · rw [F5.2 16 (by omega), ← hN2, gup_miss (by omega)]; exact gup_hit rfl rfl
    · rw [F4 _ (by omega), F3 _ (by omega), ← hM2]; exact gup_hit rfl rfl
    · rw [F5.2 9 (by omega), ← hN2]; exact gup_hit rfl rfl
    · rw [F5.2 7 (by omega), g2a 7 (by omega) (by omega), fa 7 (by omega)]; exact A7
    · rw [F4 y (by omega), F3 y (by omega), f1 y (by omega)]
    · rw [F5.1 y w1 w4, g2 y w1, fy y w1 w2, Ar y w1 w3]
    · rw [F5.2 j (by omega), g2a j (by omega) (by omega), fa j (by omega), Aa j (by omega) (by omega) (by omega)]
  · -- an error
    obtain ⟨e, p, z1, z2, z3, z4, z5⟩ := E
    have fa : ∀ j : Nat, j < 10 ∨ 15 < j → N1 a j = A a j := fun j q => by rw [F2.2 j q, mrow_ne (by omega)]
    have fy : ∀ y : Nat, ¬ y = a → ¬ y = a + 1 → N1 y = A y := fun y w1 w2 => by rw [F2.1 y w1 w2, mrow_ne w2]
    generalize hM2 : gup M1 (c + 785) 2 0 = M2
    have f2 : ∀ y : Nat, ¬ y = c + 785 → M2 y = M1 y := fun y q => by rw [← hM2]; exact gup_row q
    have f1 : ∀ y : Nat, y < c + 785 ∨ c + 852 ≤ y → M2 y = Mc y := fun y q => by rw [f2 y (by omega), F1 y (by omega), gup_row (by omega), gup_row (by omega), gup_row (by omega)]
    have hD2 : DR M2 (c + 1) r K := hD.frame hO (fun y w1 w2 => f1 y (by omega))
    have hKC2 : KC M2 (c + 131) n' kept K := hKC.frame (fun y w1 w2 => f1 y (by omega)) (Int.le_refl K)
    have m3 : M2 (c + 785) 3 = e := by rw [← hM2, gup_miss (by omega)]; exact z2
    have a9 : ¬ gup (gup N1 a 16 p) a 9 0 a 14 = 0 := by rw [gup_miss (by omega), gup_miss (by omega), z4]; exact z1
    generalize hN2 : gup (gup N1 a 16 p) a 9 0 = N2
    rw [hN2] at a9
    have g2 : ∀ y : Nat, ¬ y = a → N2 y = N1 y := fun y q => by rw [← hN2, gup_row q, gup_row q]
    have g2a : ∀ j : Nat, ¬ j = 16 → ¬ j = 9 → N2 a j = N1 a j := fun j w1 w2 => by rw [← hN2, gup_miss (by omega), gup_miss (by omega)]
    generalize hN3 : gcp N2 (a + 2) 0 (a + 1) 0 1190 = N3
    have g3 : ∀ y : Nat, ¬ y = a + 1 → N3 y = N2 y := fun y q => by rw [← hN3, gcp_row q]
    have hrow : qEq r (N3 (a + 1)) := fun j hj => by
      rw [← hN3, gcp_at hj, g2 _ (by omega), fy _ (by omega) (by omega)]
      exact A2 j hj
    have a14 : N3 a 14 = e := by rw [g3 a (by omega), g2a 14 (by omega) (by omega)]; exact z4
    have eM : fX9_load_125 g a N1 = some (e, N3) := by
      unfold fX9_load_125 fX9_load_141 fX9_load_169
      rw [if_neg (by rw [z4]; exact z1), z5]
      simp only [gst_eq]
      rw [hN2, if_neg a9, m_copies (by omega) (by omega) (by omega) (by rw [l2]; omega) (by rw [l1]; omega), Option.bind_some, tn0, hN3, if_neg (by rw [a14]; exact z1), a14]
    refine ⟨e, M2, N3, N3 (a + 1), false, p, ?_, by rw [e2, eM], rfl, hO.eq hrow, hD2.eq hO hrow, hKC2, hKM.frame ?_ ?_, ?_, ?_, ?_, ?_, ?_, fun y q => f1 y (by omega), ⟨fun y w1 w2 w3 w4 => ?_, fun j q => ?_⟩⟩
    · rw [e1, Option.bind_some]
      simp only [gst_eq]
      rw [hM2, if_pos trivial, m3]
    · rw [g3 a (by omega), g2a 6 (by omega) (by omega), fa 6 (by omega), Aa 6 (by omega) (by omega) (by omega)]
    · rw [g3 _ (by omega), g2 _ (by omega), fy _ (by omega) (by omega), Ar _ (by omega) (by omega)]
    · rw [← hM2, gup_miss (by omega)]; exact z3
    · rw [g3 a (by omega), ← hN2, gup_miss (by omega)]; exact gup_hit rfl rfl
    · rw [← hM2]; exact gup_hit rfl rfl
    · rw [g3 a (by omega), ← hN2]; exact gup_hit rfl rfl
    · rw [g3 a (by omega), g2a 7 (by omega) (by omega), fa 7 (by omega)]; exact A7
    · rw [g3 y w2, g2 y w1, fy y w1 w2, Ar y w1 w3]
    · rw [g3 a (by omega), g2a j (by omega) (by omega), fa j (by omega), Aa j (by omega) (by omega) (by omega)]
end Load3
