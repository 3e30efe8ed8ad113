/-! PURE: the first memory -/
def gI1 : Nat → Nat := fun x => if 1 + 1 ≤ x ∧ x < 1 + 1 + lDesk.length then gsh x else 0
def gI2 : Nat → Nat := fun x => if 855 ≤ x ∧ x < 855 + lModel.length then gsh x else 0
def qIni : gRow := qAddP (qInit (fun _ => 0) 1) 0 (fun _ => 97) 1
theorem qIni_eq : rsp (rsp (rup (qInit (fun _ => 0) 1) 1 1) 0 4 3) 0 10 97 = qIni := by
  funext j
  unfold qIni
  rw [qAddP_at (by omega)]
  by_cases c1 : j = 16
  · subst c1; rfl
  · by_cases c2 : j = 10
    · subst c2; rfl
    · have e1 : rsp (rsp (rup (qInit (fun _ => 0) 1) 1 1) 0 4 3) 0 10 97 j = rup (qInit (fun _ => 0) 1) 1 1 j := by
        rw [show rsp (rsp (rup (qInit (fun _ => 0) 1) 1 1) 0 4 3) 0 10 97 j = rsp (rup (qInit (fun _ => 0) 1) 1 1) 0 4 3 j from rup_miss (by omega)]
        exact rup_miss (by omega)
      rw [e1]
      by_cases c3 : j = 1
      · subst c3; rfl
      · rw [if_neg c3, if_neg (by omega), show rup (qInit (fun _ => 0) 1) 1 1 j = qInit (fun _ => 0) 1 j from rup_miss (by omega)]
        by_cases c4 : 16 + 86 * (0 : Int) ≤ (j : Int) ∧ (j : Int) < 24 + 86 * (0 : Int)
        · rw [if_pos c4, if_neg (by omega)]
          unfold qInit
          rw [if_pos (by omega), if_neg (by omega), if_neg (by omega)]
        · rw [if_neg c4]
theorem ini_all : ∃ M1 M2 M4 M5 M6, fX0_begin gI1 (1 + 1) 1 (fun _ _ => 0) = some M1 ∧ (∃ b, fX0_addProc gI1 (1 + 1) 97 M1 = some (b, M2)) ∧ (∀ x, 1 + 66 ≤ x → ∀ k, M1 x k = 0) ∧ (∀ x, 1 + 66 ≤ x → ∀ k, M2 x k = 0) ∧
    fX9_begins gI2 855 (gup (gup M2 (1 + 785) 4 (-1)) 855 16 (-1)) = some M4 ∧ fX9_sets gI2 855 0 4 3 (gup (gup M4 (855 + 1) 0 1) (855 + 1) 1 1) = some M5 ∧ fX9_sets gI2 855 0 10 97 M5 = some M6 ∧
    (∀ x, 855 + 8 < x → ∀ k, M4 x k = 0) ∧ (∀ x, 855 + 8 < x → ∀ k, M5 x k = 0) ∧ (∀ x, 855 + 8 < x → ∀ k, M6 x k = 0) ∧ REL M6 0 := by
  obtain ⟨M1, e1, D1, F1⟩ := c_begin (g := gI1) (d := 2) (M := fun _ _ => 0) (r := fun _ => 0) (s := 1) (by omega)
  obtain ⟨M2, e2, D2, O2, F2⟩ := c_addProc (g := gI1) (d := 2) (f := fun _ => 97) (len := 1) (p := 0) (qInit_lo (by omega)) rfl (by omega) rfl qInit_p (Or.inl rfl) (by omega) (fun k _ _ => by omega) D1
  rw [show qPack (fun _ => (97 : Int)) (1 : Int).toNat = 97 from rfl] at e2
  have z1 : ∀ x, 67 ≤ x → M1 x = fun _ => 0 := fun x hx => by rw [F1 x (by omega)]
  have z2 : ∀ x, 67 ≤ x → M2 x = fun _ => 0 := fun x hx => by rw [F2 x (by omega)]; exact z1 x hx
  obtain ⟨M3, hM3⟩ : ∃ M3, M3 = gup (gup M2 (1 + 785) 4 (-1)) 855 16 (-1) := ⟨_, rfl⟩
  have z3 : ∀ x, 67 ≤ x → ¬ x = 786 → ¬ x = 855 → M3 x = fun _ => 0 := fun x hx h1 h2 => by rw [hM3, gup_row (by omega), gup_row (by omega)]; exact z2 x hx
  have l3 : ∀ x, x < 67 → M3 x = M2 x := fun x hx => by rw [hM3, gup_row (by omega), gup_row (by omega)]
  have b3 : ∀ j, ¬ j = 4 → M3 786 j = 0 := fun j hj => by rw [hM3, gup_row (by omega), gup_miss (by omega), z2 _ (by omega)]
  have b4 : M3 786 4 = -1 := by rw [hM3, gup_row (by omega)]; exact gup_hit rfl rfl
  have a3 : ∀ j, ¬ j = 16 → M3 855 j = 0 := fun j hj => by rw [hM3, gup_miss (by omega), gup_row (by omega), z2 _ (by omega)]
  have a4 : M3 855 16 = -1 := by rw [hM3]; exact gup_hit rfl rfl
  obtain ⟨r', e4, h4⟩ := m_begins (g := gI2) (a := 855) (M := M3)
  rw [z3 (855 + 1) (by omega) (by omega) (by omega)] at h4
  have hr5 : (gup (gup (mrow M3 (855 + 1) r') (855 + 1) 0 1) (855 + 1) 1 1) (855 + 1) = rup (qInit (fun _ => 0) 1) 1 1 := by
    rw [← h4 1]
    funext j
    by_cases c1 : j = 1
    · subst c1
      rw [gup_hit rfl rfl]; exact (rup_hit rfl).symm
    · rw [gup_miss (by omega), show rup (rup r' 0 1) 1 1 j = rup r' 0 1 j from rup_miss (by omega)]
      by_cases c0 : j = 0
      · subst c0
        rw [gup_hit rfl rfl]; exact (rup_hit rfl).symm
      · rw [gup_miss (by omega), mrow_at, show rup r' 0 1 j = r' j from rup_miss (by omega)]
  have e5 := m_setsR (g := gI2) hr5 (p := 0) (k := 4) (v := 3) (by omega) (by omega)
  have e6 := m_setsR (g := gI2) (M := mrow (gup (gup (mrow M3 (855 + 1) r') (855 + 1) 0 1) (855 + 1) 1 1) (855 + 1) (rsp (rup (qInit (fun _ => 0) 1) 1 1) 0 4 3)) (a := 855) (mrow_at _ _ _) (p := 0) (k := 10) (v := 97) (by omega) (by omega)
  rw [qIni_eq] at e6
  have f4 : ∀ y, ¬ y = 856 → mrow M3 (855 + 1) r' y = M3 y := fun y h => mrow_ne (by omega)
  have f5 : ∀ y, ¬ y = 856 → mrow (gup (gup (mrow M3 (855 + 1) r') (855 + 1) 0 1) (855 + 1) 1 1) (855 + 1) (rsp (rup (qInit (fun _ => 0) 1) 1 1) 0 4 3) y = M3 y := fun y h => by rw [mrow_ne (by omega), gup_row (by omega), gup_row (by omega)]; exact f4 y h
  have f6 : ∀ y, ¬ y = 856 → mrow (mrow (gup (gup (mrow M3 (855 + 1) r') (855 + 1) 0 1) (855 + 1) 1 1) (855 + 1) (rsp (rup (qInit (fun _ => 0) 1) 1 1) 0 4 3)) (855 + 1) qIni y = M3 y := fun y h => by rw [mrow_ne (by omega)]; exact f5 y h
  refine ⟨M1, M2, _, _, _, e1, ⟨_, e2⟩, fun x hx k => by rw [z1 x (by omega)], fun x hx k => by rw [z2 x (by omega)], by rw [← hM3]; exact e4, e5, e6, fun x hx k => by rw [f4 x (by omega), z3 x (by omega) (by omega) (by omega)], fun x hx k => by rw [f5 x (by omega), z3 x (by omega) (by omega) (by omega)], fun x hx k => by rw [f6 x (by omega), z3 x (by omega) (by omega) (by omega)], ?_⟩
  have hD2 : ∀ y : Nat, y < 67 → mrow (mrow (gup (gup (mrow M3 (855 + 1) r') (855 + 1) 0 1) (855 + 1) 1 1) (855 + 1) (rsp (rup (qInit (fun _ => 0) 1) 1 1) 0 4 3)) (855 + 1) qIni y = M2 y := fun y hy => by rw [f6 y (by omega), l3 y hy]
  have g6 : ∀ y, 67 ≤ y → ¬ y = 786 → ¬ y = 855 → ¬ y = 856 → mrow (mrow (gup (gup (mrow M3 (855 + 1) r') (855 + 1) 0 1) (855 + 1) 1 1) (855 + 1) (rsp (rup (qInit (fun _ => 0) 1) 1 1) 0 4 3)) (855 + 1) qIni y = fun _ => 0 := fun y h1 h2 h3 h4 => by rw [f6 y h4]; exact z3 y h1 h2 h3
  refine ⟨qIni, 0, fun _ _ => 0, fun _ => 0, fun _ _ => 0, fun _ => 0, 0, -1, [], ⟨O2, D2.frame O2 (fun y q1 q2 => hD2 y (by omega)), ⟨by rw [g6 _ (by omega) (by omega) (by omega) (by omega)], ⟨by rw [g6 _ (by omega) (by omega) (by omega) (by omega)]; show (0 : Int) ≤ 0; decide, by rw [g6 _ (by omega) (by omega) (by omega) (by omega)]; show (0 : Int) < 8; decide⟩, fun b hb => by omega⟩, fun i hi => ⟨by rw [g6 _ (by omega) (by omega) (by omega) (by omega)], Or.inl rfl, fun h => absurd (show (0 : Int) = 1 from h) (by decide)⟩, ⟨by rw [f6 _ (by omega)]; exact b3 2 (by omega), fun k q1 q2 => by omega⟩, by rw [f6 _ (by omega)]; exact b4, ⟨by rw [g6 _ (by omega) (by omega) (by omega) (by omega)]; rfl, fun i hi => absurd hi (Nat.not_lt_zero i)⟩⟩,
    ⟨mrow_at _ _ _, ⟨by rw [f6 _ (by omega)]; exact a3 6 (by omega), ⟨by omega, by omega⟩, fun b hb => by omega⟩, fun i hi => ⟨by rw [g6 _ (by omega) (by omega) (by omega) (by omega)], fun h => absurd (show (0 : Int) = 1 from h) (by decide)⟩, ⟨by rw [f6 _ (by omega)]; exact a3 9 (by omega), fun k q1 q2 => by omega⟩, by rw [f6 _ (by omega)]; exact a4, ⟨by rw [f6 _ (by omega)]; exact a3 19 (by omega), fun i hi => absurd hi (Nat.not_lt_zero i)⟩⟩,
    ⟨⟨by omega, by omega⟩, ⟨by omega, by omega⟩, fun i hi => Or.inl rfl, ⟨⟨by omega, by omega⟩, fun k q1 q2 => by omega⟩, by decide⟩⟩
