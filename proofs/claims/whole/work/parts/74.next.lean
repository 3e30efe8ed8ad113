/-! PURE: the next token, on both sides -/
def qRun (P : Int → Bool) (x : gRow) : Nat → Int → Int
  | 0, p => p
  | k + 1, p => if P (x p.toNat) = true then qRun P x k (p + 1) else p
def qDig (x : gRow) : Nat → Int → Int → Int
  | 0, _, d => d
  | k + 1, p, d => if 48 ≤ x p.toNat ∧ x p.toNat ≤ 57 then qDig x k (p + 1) (gmin 10000000 (10 * d + x p.toNat - 48)) else d
def qSpB : Int → Bool := fun v => decide (v = 32)
def qLeB : Int → Bool := fun v => decide (97 ≤ v ∧ v ≤ 122)
def qDiB : Int → Bool := fun v => decide (48 ≤ v ∧ v ≤ 57)
/-- start, end, kind and number of the token behind p -/
def qNs (x : gRow) (n p : Int) : Int := qRun qSpB x (n - p).toNat p
def qNk (x : gRow) (n p : Int) : Int := if n ≤ qNs x n p then 3 else if qLeB (x (qNs x n p).toNat) = true then 0 else if qDiB (x (qNs x n p).toNat) = true then 1 else 2
def qNe (x : gRow) (n p : Int) : Int := if n ≤ qNs x n p then qNs x n p else if qLeB (x (qNs x n p).toNat) = true then qRun qLeB x (n - qNs x n p).toNat (qNs x n p) else if qDiB (x (qNs x n p).toNat) = true then qRun qDiB x (n - qNs x n p).toNat (qNs x n p) else qNs x n p + 1
def qNd (x : gRow) (n p : Int) : Int := if n ≤ qNs x n p then 0 else if qLeB (x (qNs x n p).toNat) = true then 0 else qDig x (n - qNs x n p).toNat (qNs x n p) 0
def tw (x : gRow) (ps : Int) : Int → Int := fun k => x (ps + k).toNat
/-- the class's token, and the reference's -/
def CT (M : gMem) (b : Nat) (x : gRow) (ps pb kd dg : Int) : Prop :=
  M b 5 = pb ∧ M b 6 = ps ∧ M b 7 = (if kd = 0 then 256 else if kd = 1 then 257 else if kd = 3 then -1 else x ps.toNat) ∧ (kd = 0 → M b 8 = if pb - ps ≤ 8 then qPack (tw x ps) (pb - ps).toNat else 0) ∧ (kd = 1 → M b 9 = gmin dg 1000000)
def MT (M : gMem) (a : Nat) (ps pb kd dg : Int) : Prop := M a 10 = ps ∧ M a 11 = pb ∧ M a 12 = kd ∧ M a 13 = dg ∧ M a 14 = 0
def gF5 (b : Nat) (M M' : gMem) : Prop := (∀ y : Nat, ¬ y = b → M' y = M y) ∧ ∀ j : Nat, j < 5 ∨ 9 < j → M' b j = M b j
def gF9 (a : Nat) (M M' : gMem) : Prop := (∀ y : Nat, ¬ y = a → M' y = M y) ∧ ∀ j : Nat, j < 10 ∨ 13 < j → M' a j = M a j
section Next
variable {M M' : gMem} {b a : Nat} {x : gRow} {n : Int} {g : Nat → Nat}
theorem gF5.rfl' : gF5 b M M := ⟨fun _ _ => rfl, fun _ _ => rfl⟩
theorem gF5.trans {M'' : gMem} (h : gF5 b M M') (h' : gF5 b M' M'') : gF5 b M M'' := ⟨fun y q => (h'.1 y q).trans (h.1 y q), fun j q => (h'.2 j q).trans (h.2 j q)⟩
theorem gF5.up {j : Nat} {v : Int} (hj : 5 ≤ j ∧ j ≤ 9) : gF5 b M (gup M b j v) := ⟨fun y q => gup_row q, fun i q => gup_miss (by omega)⟩
theorem gF9.rfl' : gF9 a M M := ⟨fun _ _ => rfl, fun _ _ => rfl⟩
theorem gF9.trans {M'' : gMem} (h : gF9 a M M') (h' : gF9 a M' M'') : gF9 a M M'' := ⟨fun y q => (h'.1 y q).trans (h.1 y q), fun j q => (h'.2 j q).trans (h.2 j q)⟩
theorem gF9.up {j : Nat} {v : Int} (hj : 10 ≤ j ∧ j ≤ 13) : gF9 a M (gup M a j v) := ⟨fun y q => gup_row q, fun i q => gup_miss (by omega)⟩
theorem qRun_spec {P : Int → Bool} : ∀ (k : Nat) (p : Int), (p ≤ qRun P x k p ∧ qRun P x k p ≤ p + k) ∧ (∀ q : Int, p ≤ q → q < qRun P x k p → P (x q.toNat) = true) ∧ (qRun P x k p < p + k → ¬ P (x (qRun P x k p).toNat) = true) := by
  intro k
  induction k with
  | zero => intro p; exact ⟨⟨Int.le_refl p, by show p ≤ p + 0; omega⟩, fun q q1 q2 => by have : q < p := q2; omega, fun h => by have : p < p + ((0 : Nat) : Int) := h; omega⟩
  | succ k ih =>
    intro p
    unfold qRun
    by_cases h : P (x p.toNat) = true
    · simp only [if_pos h]
      obtain ⟨h1, h2, h3⟩ := ih (p + 1)
      refine ⟨by omega, fun q q1 q2 => ?_, fun q => h3 (by omega)⟩
      by_cases e : q = p
      · rw [e]; exact h
      · exact h2 q (by omega) q2
    · simp only [if_neg h]
      exact ⟨by omega, fun q q1 q2 => by omega, fun _ => h⟩
theorem BC.f5 (h : BC M b x n) (hf : gF5 b M M') : BC M' b x n := ⟨by rw [hf.2 2 (by omega)]; exact h.1, fun k q1 q2 => by rw [hf.1 (b + 1) (by omega)]; exact h.2 k q1 q2⟩
theorem BM.f9 (h : BM M a x n) (hf : gF9 a M M') : BM M' a x n := ⟨by rw [hf.2 9 (by omega)]; exact h.1, fun k q1 q2 => by rw [hf.1 (a + 7) (by omega)]; exact h.2 k q1 q2⟩
/-! the class -/
theorem c_skip : ∀ (k : Nat) (p : Int) (M : gMem) (fu : Nat), BX x n → BC M b x n → M b 5 = p → 0 ≤ p → p + k = n → k < fu → ∃ M', fX5_next_25 g fu b n M = fX5_next_60 g b n M' ∧ M' b 5 = qRun qSpB x k p ∧ gF5 b M M' := by
  intro k
  induction k with
  | zero =>
    intro p M fu hX hB h5 h0 hs hf
    obtain ⟨fu, rfl⟩ := fuS hf
    unfold fX5_next_25 qRun
    rw [h5, if_pos (by omega)]
    exact ⟨M, rfl, h5, gF5.rfl'⟩
  | succ k ih =>
    intro p M fu hX hB h5 h0 hs hf
    obtain ⟨fu, rfl⟩ := fuS hf
    have hn := hX.1
    have hv := hX.2 p h0 (by omega)
    unfold fX5_next_25 qRun
    have hp : 0 ≤ p ∧ p < 600 := by omega
    rw [h5, if_neg (by omega)]
    simp only [if_pos hp]
    rw [hB.2 p h0 (by omega)]
    by_cases h : x p.toNat = 32
    · have h2 : qSpB (x p.toNat) = true := decide_eq_true h
      rw [if_pos (by rw [h]; rfl), if_pos h2, gst_eq, gwi_eq (by omega) (by omega)]
      obtain ⟨M2, e2, v2, F2⟩ := ih (p + 1) (gup M b 5 (p + 1)) fu hX (hB.f5 (gF5.up (by omega))) (gup_hit rfl rfl) (by omega) (by omega) (by omega)
      exact ⟨M2, e2, v2, (gF5.up (by omega)).trans F2⟩
    · have h2 : ¬ qSpB (x p.toNat) = true := fun z => h (of_decide_eq_true z)
      rw [if_neg (by unfold gwb; omega), if_neg h2]
      exact ⟨M, rfl, h5, gF5.rfl'⟩
theorem c_word {ps : Int} : ∀ (k : Nat) (p : Int) (M : gMem) (fu : Nat), BX x n → BC M b x n → M b 5 = p → M b 6 = ps → (p - ps ≤ 8 → M b 8 = qPack (tw x ps) (p - ps).toNat) → 0 ≤ ps → ps ≤ p → p + k = n → k < fu → (∀ q : Int, ps ≤ q → q < p → 97 ≤ x q.toNat ∧ x q.toNat ≤ 122) → ∃ M', fX5_next_142 g fu b n M = some M' ∧ M' b 5 = qRun qLeB x k p ∧ M' b 8 = (if qRun qLeB x k p - ps ≤ 8 then qPack (tw x ps) (qRun qLeB x k p - ps).toNat else 0) ∧ gF5 b M M' ∧ M' b 6 = M b 6 ∧ M' b 7 = M b 7 := by
  have T : ∀ (p : Int) (M : gMem), M b 5 = p → M b 6 = ps → (p - ps ≤ 8 → M b 8 = qPack (tw x ps) (p - ps).toNat) → 0 ≤ ps → ps ≤ p → p ≤ 600 → ∃ M', fX5_next_213 g b M = some M' ∧ M' b 5 = p ∧ M' b 8 = (if p - ps ≤ 8 then qPack (tw x ps) (p - ps).toNat else 0) ∧ gF5 b M M' ∧ M' b 6 = M b 6 ∧ M' b 7 = M b 7 := by
    intro p M h5 h6 h8 h0 h1 hn
    unfold fX5_next_213
    rw [h5, h6, gwi_eq (by omega) (by omega)]
    by_cases h : p - ps ≤ 8
    · rw [if_pos h, if_pos h]
      exact ⟨M, rfl, h5, h8 h, gF5.rfl', h6, rfl⟩
    · rw [if_neg h, if_neg h, gst_eq]
      exact ⟨_, rfl, by rw [gup_miss (by omega)]; exact h5, gup_hit rfl rfl, gF5.up (by omega), by rw [gup_miss (by omega)]; exact h6, gup_miss (by omega)⟩
  intro k
  induction k with
  | zero =>
    intro p M fu hX hB h5 h6 h8 h0 h1 hs hf hl
    obtain ⟨fu, rfl⟩ := fuS hf
    have hn := hX.1
    unfold fX5_next_142 qRun
    rw [h5, if_pos (by omega)]
    exact T p M h5 h6 h8 h0 h1 (by omega)
  | succ k ih =>
    intro p M fu hX hB h5 h6 h8 h0 h1 hs hf hl
    obtain ⟨fu, rfl⟩ := fuS hf
    have hn := hX.1
    have hv := hX.2 p (by omega) (by omega)
    unfold fX5_next_142 qRun
    have hp : 0 ≤ p ∧ p < 600 := by omega
    rw [h5, if_neg (by omega)]
    simp only [if_pos hp]
    rw [hB.2 p (by omega) (by omega)]
    by_cases h : 97 ≤ x p.toNat ∧ x p.toNat ≤ 122
    · have h2 : qLeB (x p.toNat) = true := decide_eq_true h
      have ew : gwb (x p.toNat) = x p.toNat := by unfold gwb; omega
      rw [ew, if_neg (by omega), if_neg (by omega), if_pos h2, gst_eq, gst_eq, gup_miss (by omega), h5, gwi_eq (x := p + 1) (by omega) (by omega)]
      generalize hM1 : gup (gup M b 8 (glor (glshl (M b 8) 8) (x p.toNat))) b 5 (p + 1) = M1
      have F1 : gF5 b M M1 := by rw [← hM1]; exact (gF5.up (by omega)).trans (gF5.up (by omega))
      have v5 : M1 b 5 = p + 1 := by rw [← hM1]; exact gup_hit rfl rfl
      have v6 : M1 b 6 = ps := by rw [← hM1, gup_miss (by omega), gup_miss (by omega)]; exact h6
      have v7 : M1 b 7 = M b 7 := by rw [← hM1, gup_miss (by omega), gup_miss (by omega)]
      have v8 : p + 1 - ps ≤ 8 → M1 b 8 = qPack (tw x ps) (p + 1 - ps).toNat := by
        intro h9
        have hb : qBytes (tw x ps) (p - ps).toNat := fun q q1 q2 => by
          have := hl (ps + q) (by omega) (by omega)
          show 1 ≤ x (ps + q).toNat ∧ x (ps + q).toNat ≤ 127
          omega
        rw [← hM1, gup_miss (by omega), gup_hit rfl rfl, h8 (by omega), gpk8 (qPack_small hb (by omega)) (by omega)]
        have e : (p + 1 - ps).toNat = (p - ps).toNat + 1 := by omega
        rw [e]
        show _ = qPack (tw x ps) (p - ps).toNat * 256 + x (ps + ((p - ps).toNat : Int)).toNat
        rw [show ps + ((p - ps).toNat : Int) = p by omega]
      obtain ⟨M2, e2, a5, a8, F2, a6, a7⟩ := ih (p + 1) M1 fu hX (hB.f5 F1) v5 v6 v8 h0 (by omega) (by omega) (by omega) (fun q q1 q2 => by
        by_cases e : q = p
        · rw [e]; exact h
        · exact hl q q1 (by omega))
      exact ⟨M2, e2, a5, a8, F1.trans F2, by rw [a6, v6, h6], a7.trans v7⟩
    · have h2 : ¬ qLeB (x p.toNat) = true := fun z => h (of_decide_eq_true z)
      rw [if_neg h2]
      by_cases hc : gwb (x p.toNat) < 97
      · rw [if_pos hc]; exact T p M h5 h6 h8 h0 h1 (by omega)
      · rw [if_neg hc, if_pos (by unfold gwb at hc ⊢; omega)]; exact T p M h5 h6 h8 h0 h1 (by omega)
theorem c_digits : ∀ (k : Nat) (p d : Int) (M : gMem) (fu : Nat), BX x n → BC M b x n → M b 5 = p → M b 9 = gmin d 1000000 → 0 ≤ d → d ≤ 10000000 → 0 ≤ p → p + k = n → k < fu → ∃ M', fX5_next_271 g fu b n M = some M' ∧ M' b 5 = qRun qDiB x k p ∧ M' b 9 = gmin (qDig x k p d) 1000000 ∧ gF5 b M M' ∧ M' b 6 = M b 6 ∧ M' b 7 = M b 7 := by
  intro k
  induction k with
  | zero =>
    intro p d M fu hX hB h5 h9 hd hd2 h0 hs hf
    obtain ⟨fu, rfl⟩ := fuS hf
    unfold fX5_next_271 qRun qDig
    rw [h5, if_pos (by omega)]
    exact ⟨M, rfl, h5, h9, gF5.rfl', rfl, rfl⟩
  | succ k ih =>
    intro p d M fu hX hB h5 h9 hd hd2 h0 hs hf
    obtain ⟨fu, rfl⟩ := fuS hf
    have hn := hX.1
    have hv := hX.2 p (by omega) (by omega)
    unfold fX5_next_271 qRun qDig
    have hp : 0 ≤ p ∧ p < 600 := by omega
    rw [h5, if_neg (by omega)]
    simp only [if_pos hp]
    rw [hB.2 p (by omega) (by omega)]
    by_cases h : 48 ≤ x p.toNat ∧ x p.toNat ≤ 57
    · have h2 : qDiB (x p.toNat) = true := decide_eq_true h
      have ew : gwb (x p.toNat) = x p.toNat := by unfold gwb; omega
      have g1 : 0 ≤ gmin d 1000000 ∧ gmin d 1000000 ≤ 1000000 := by unfold gmin; split <;> omega
      rw [ew, if_neg (by omega), if_neg (by omega), if_pos h2, if_pos h, gst_eq, gst_eq, gup_miss (by omega), h5, gwi_eq (x := p + 1) (by omega) (by omega), h9, gwi_eq (x := gmin d 1000000 * 10) (by omega) (by omega), gwi_eq (x := gmin d 1000000 * 10 + x p.toNat) (by omega) (by omega), gwi_eq (x := gmin d 1000000 * 10 + x p.toNat - 48) (by omega) (by omega)]
      generalize hM1 : gup (gup M b 9 (gmin (gmin d 1000000 * 10 + x p.toNat - 48) 1000000)) b 5 (p + 1) = M1
      have F1 : gF5 b M M1 := by rw [← hM1]; exact (gF5.up (by omega)).trans (gF5.up (by omega))
      have v5 : M1 b 5 = p + 1 := by rw [← hM1]; exact gup_hit rfl rfl
      have v6 : M1 b 6 = M b 6 := by rw [← hM1, gup_miss (by omega), gup_miss (by omega)]
      have v7 : M1 b 7 = M b 7 := by rw [← hM1, gup_miss (by omega), gup_miss (by omega)]
      have v9 : M1 b 9 = gmin (gmin 10000000 (10 * d + x p.toNat - 48)) 1000000 := by
        rw [← hM1, gup_miss (by omega), gup_hit rfl rfl]
        unfold gmin
        repeat' split
        all_goals omega
      have g2 : 0 ≤ gmin 10000000 (10 * d + x p.toNat - 48) ∧ gmin 10000000 (10 * d + x p.toNat - 48) ≤ 10000000 := by unfold gmin; split <;> omega
      obtain ⟨M2, e2, a5, a9, F2, a6, a7⟩ := ih (p + 1) _ M1 fu hX (hB.f5 F1) v5 v9 g2.1 g2.2 (by omega) (by omega) (by omega)
      exact ⟨M2, e2, a5, a9, F1.trans F2, a6.trans v6, a7.trans v7⟩
    · have h2 : ¬ qDiB (x p.toNat) = true := fun z => h (of_decide_eq_true z)
      rw [if_neg h2, if_neg h]
      by_cases hc : gwb (x p.toNat) < 48
      · rw [if_pos hc]; exact ⟨M, rfl, h5, h9, gF5.rfl', rfl, rfl⟩
      · rw [if_neg hc, if_pos (by unfold gwb at hc ⊢; omega)]; exact ⟨M, rfl, h5, h9, gF5.rfl', rfl, rfl⟩
theorem c_next60 {s : Int} (hX : BX x n) (hB : BC M b x n) (h5 : M b 5 = s) (h0 : 0 ≤ s ∧ s ≤ n) : ∃ M', fX5_next_60 g b n M = some M' ∧ CT M' b x s (if n ≤ s then s else if qLeB (x s.toNat) = true then qRun qLeB x (n - s).toNat s else if qDiB (x s.toNat) = true then qRun qDiB x (n - s).toNat s else s + 1) (if n ≤ s then 3 else if qLeB (x s.toNat) = true then 0 else if qDiB (x s.toNat) = true then 1 else 2) (if n ≤ s then 0 else if qLeB (x s.toNat) = true then 0 else qDig x (n - s).toNat s 0) ∧ gF5 b M M' := by
  have hn := hX.1
  unfold fX5_next_60
  rw [gst_eq, gst_eq, gup_miss (by omega), gup_miss (by omega), h5]
  by_cases he : n ≤ s
  · simp only [if_pos he]
    generalize hM1 : gup (gup M b 6 s) b 7 (-1) = M1
    have F1 : gF5 b M M1 := by rw [← hM1]; exact (gF5.up (by omega)).trans (gF5.up (by omega))
    have v5 : M1 b 5 = s := by rw [← hM1, gup_miss (by omega), gup_miss (by omega)]; exact h5
    have v6 : M1 b 6 = s := by rw [← hM1, gup_miss (by omega)]; exact gup_hit rfl rfl
    have v7 : M1 b 7 = -1 := by rw [← hM1]; exact gup_hit rfl rfl
    unfold fX5_next_108 fX5_next_235
    rw [v7, if_pos (by omega), if_pos (by omega)]
    exact ⟨M1, rfl, ⟨v5, v6, by rw [v7]; rfl, fun h => by omega, fun h => by omega⟩, F1⟩
  · simp only [if_neg he]
    have hv := hX.2 s (by omega) (by omega)
    rw [gup_miss (by omega), gup_miss (by omega), if_pos (by omega), hB.2 s (by omega) (by omega), gand_gwb (by omega), gst_eq, gst_eq, gup_miss (by omega), gup_miss (by omega), gup_miss (by omega), h5, gwi_eq (x := s + 1) (by omega) (by omega)]
    generalize hM1 : gup (gup (gup (gup M b 6 s) b 7 (-1)) b 7 (x s.toNat)) b 5 (s + 1) = M1
    have F1 : gF5 b M M1 := by rw [← hM1]; exact (((gF5.up (by omega)).trans (gF5.up (by omega))).trans (gF5.up (by omega))).trans (gF5.up (by omega))
    have v5 : M1 b 5 = s + 1 := by rw [← hM1]; exact gup_hit rfl rfl
    have v6 : M1 b 6 = s := by rw [← hM1, gup_miss (by omega), gup_miss (by omega), gup_miss (by omega)]; exact gup_hit rfl rfl
    have v7 : M1 b 7 = x s.toNat := by rw [← hM1, gup_miss (by omega)]; exact gup_hit rfl rfl
    have hB1 := hB.f5 F1
    have ek : (n - s).toNat = (n - (s + 1)).toNat + 1 := by omega
    by_cases hl : 97 ≤ x s.toNat ∧ x s.toNat ≤ 122
    · have hl2 : qLeB (x s.toNat) = true := decide_eq_true hl
      simp only [if_pos hl2]
      unfold fX5_next_108
      rw [v7, if_neg (by omega), if_neg (by omega), gst_eq, gst_eq]
      generalize hM2 : gup (gup M1 b 8 (x s.toNat)) b 7 256 = M2
      have F2 : gF5 b M1 M2 := by rw [← hM2]; exact (gF5.up (by omega)).trans (gF5.up (by omega))
      have w5 : M2 b 5 = s + 1 := by rw [← hM2, gup_miss (by omega), gup_miss (by omega)]; exact v5
      have w6 : M2 b 6 = s := by rw [← hM2, gup_miss (by omega), gup_miss (by omega)]; exact v6
      have w7 : M2 b 7 = 256 := by rw [← hM2]; exact gup_hit rfl rfl
      have w8 : s + 1 - s ≤ 8 → M2 b 8 = qPack (tw x s) (s + 1 - s).toNat := fun _ => by
        rw [← hM2, gup_miss (by omega), gup_hit rfl rfl, show (s + 1 - s).toNat = 1 by omega]
        show _ = 0 * 256 + x (s + ((0 : Nat) : Int)).toNat
        rw [show s + ((0 : Nat) : Int) = s by omega]
        omega
      obtain ⟨M3, e3, a5, a8, F3, a6, a7⟩ := c_word (g := g) (ps := s) (n - (s + 1)).toNat (s + 1) M2 gF hX (hB1.f5 F2) w5 w6 w8 h0.1 (by omega) (by omega) (by unfold gF; omega) (fun q q1 q2 => by
        have : q = s := by omega
        rw [this]; exact hl)
      have er : qRun qLeB x (n - s).toNat s = qRun qLeB x (n - (s + 1)).toNat (s + 1) := by
        rw [ek]
        show (if qLeB (x s.toNat) = true then _ else _) = _
        rw [if_pos hl2]
      rw [er]
      exact ⟨M3, e3, ⟨a5, a6.trans w6, by rw [a7, w7]; rfl, fun _ => a8, fun h => by omega⟩, (F1.trans F2).trans F3⟩
    · have hl2 : ¬ qLeB (x s.toNat) = true := fun z => hl (of_decide_eq_true z)
      simp only [if_neg hl2]
      have e108 : fX5_next_108 g b n M1 = fX5_next_235 g b n M1 := by
        unfold fX5_next_108
        rw [v7]
        by_cases c1 : x s.toNat < 97
        · rw [if_pos c1]
        · rw [if_neg c1, if_pos (by omega)]
      rw [e108]
      by_cases hd : 48 ≤ x s.toNat ∧ x s.toNat ≤ 57
      · have hd2 : qDiB (x s.toNat) = true := decide_eq_true hd
        simp only [if_pos hd2]
        unfold fX5_next_235
        rw [v7, if_neg (by omega), if_neg (by omega), gst_eq, gst_eq, gwi_eq (by omega) (by omega)]
        generalize hM2 : gup (gup M1 b 9 (x s.toNat - 48)) b 7 257 = M2
        have F2 : gF5 b M1 M2 := by rw [← hM2]; exact (gF5.up (by omega)).trans (gF5.up (by omega))
        have w5 : M2 b 5 = s + 1 := by rw [← hM2, gup_miss (by omega), gup_miss (by omega)]; exact v5
        have w6 : M2 b 6 = s := by rw [← hM2, gup_miss (by omega), gup_miss (by omega)]; exact v6
        have w7 : M2 b 7 = 257 := by rw [← hM2]; exact gup_hit rfl rfl
        have w9 : M2 b 9 = gmin (x s.toNat - 48) 1000000 := by
          rw [← hM2, gup_miss (by omega), gup_hit rfl rfl]
          unfold gmin
          rw [if_neg (by omega)]
        obtain ⟨M3, e3, a5, a9, F3, a6, a7⟩ := c_digits (g := g) (n - (s + 1)).toNat (s + 1) (x s.toNat - 48) M2 gF hX (hB1.f5 F2) w5 w9 (by omega) (by omega) (by omega) (by omega) (by unfold gF; omega)
        have er : qRun qDiB x (n - s).toNat s = qRun qDiB x (n - (s + 1)).toNat (s + 1) := by
          rw [ek]
          show (if qDiB (x s.toNat) = true then _ else _) = _
          rw [if_pos hd2]
        have ed : qDig x (n - s).toNat s 0 = qDig x (n - (s + 1)).toNat (s + 1) (x s.toNat - 48) := by
          rw [ek]
          show (if 48 ≤ x s.toNat ∧ x s.toNat ≤ 57 then _ else _) = _
          rw [if_pos hd]
          congr 1
          unfold gmin
          rw [if_pos (by omega)]
          omega
        rw [er, ed]
        exact ⟨M3, e3, ⟨a5, a6.trans w6, by rw [a7, w7]; rfl, fun h => by omega, fun _ => a9⟩, (F1.trans F2).trans F3⟩
      · have hd2 : ¬ qDiB (x s.toNat) = true := fun z => hd (of_decide_eq_true z)
        simp only [if_neg hd2]
        have e235 : fX5_next_235 g b n M1 = some M1 := by
          unfold fX5_next_235
          rw [v7]
          by_cases c1 : x s.toNat < 48
          · rw [if_pos c1]
          · rw [if_neg c1, if_pos (by omega)]
        rw [e235]
        exact ⟨M1, rfl, ⟨v5, v6, by rw [v7, if_neg (by omega), if_neg (by omega), if_neg (by omega)], fun h => by omega, fun h => by omega⟩, F1⟩
theorem c_tok {p : Int} (hX : BX x n) (hB : BC M b x n) (h5 : M b 5 = p) (h0 : 0 ≤ p ∧ p ≤ n) : ∃ M', fX5_next g b M = some M' ∧ CT M' b x (qNs x n p) (qNe x n p) (qNk x n p) (qNd x n p) ∧ gF5 b M M' := by
  have hn := hX.1
  obtain ⟨M1, e1, v1, F1⟩ := c_skip (g := g) (n - p).toNat p M gF hX hB h5 h0.1 (by omega) (by unfold gF; omega)
  obtain ⟨s1, s2, s3⟩ := qRun_spec (P := qSpB) (x := x) (n - p).toNat p
  obtain ⟨M2, e2, T2, F2⟩ := c_next60 (g := g) hX (hB.f5 F1) v1 (by omega)
  have e : fX5_next g b M = some M2 := by
    unfold fX5_next fX5_next_24
    rw [hB.1]
    by_cases h : 600 ≤ n
    · rw [if_pos h, show (600 : Int) = n by omega, e1]; exact e2
    · rw [if_neg h, e1]; exact e2
  exact ⟨M2, e, T2, F1.trans F2⟩
/-! the reference -/
theorem m_see {p : Int} (hB : BM M a x n) (hn : n ≤ 600) (h0 : 0 ≤ p) : fX9_see g a p M = some (if p < n then x p.toNat else -1) := by
  unfold fX9_see
  rw [hB.1]
  by_cases h : p < n
  · rw [if_neg (by omega), if_pos (by omega), if_pos h, hB.2 p h0 h]
  · rw [if_pos (by omega), if_neg h]
theorem m_isLetter {p : Int} (hB : BM M a x n) (hn : n ≤ 600) (h0 : 0 ≤ p) : fX9_isLetter g a p M = some (if p < n ∧ qLeB (x p.toNat) = true then 1 else 0) := by
  unfold fX9_isLetter
  rw [m_see hB hn h0, Option.bind_some, m_isIn, Option.bind_some]
  by_cases h : p < n
  · rw [if_pos h]
    unfold qB
    by_cases h2 : 97 ≤ x p.toNat ∧ x p.toNat ≤ 122
    · rw [if_pos h2, if_pos ⟨h, decide_eq_true h2⟩]
    · rw [if_neg h2, if_neg (fun z => h2 (of_decide_eq_true z.2))]
  · rw [if_neg h, if_neg (fun z => h z.1)]; rfl
theorem m_isDigit {p : Int} (hB : BM M a x n) (hn : n ≤ 600) (h0 : 0 ≤ p) : fX9_isDigit g a p M = some (if p < n ∧ qDiB (x p.toNat) = true then 1 else 0) := by
  unfold fX9_isDigit
  rw [m_see hB hn h0, Option.bind_some, m_isIn, Option.bind_some]
  by_cases h : p < n
  · rw [if_pos h]
    unfold qB
    by_cases h2 : 48 ≤ x p.toNat ∧ x p.toNat ≤ 57
    · rw [if_pos h2, if_pos ⟨h, decide_eq_true h2⟩]
    · rw [if_neg h2, if_neg (fun z => h2 (of_decide_eq_true z.2))]
  · rw [if_neg h, if_neg (fun z => h z.1)]; rfl
theorem m_letters : ∀ (k : Nat) (p : Int) (M : gMem) (fu : Nat), BM M a x n → n ≤ 600 → M a 11 = p → 0 ≤ p → p + k = n → k < fu → ∃ M', fX9_next_77 g fu a M = some M' ∧ M' a 11 = qRun qLeB x k p ∧ M' a 12 = 0 ∧ gF9 a M M' ∧ M' a 10 = M a 10 ∧ M' a 13 = M a 13 := by
  intro k
  induction k with
  | zero =>
    intro p M fu hB hn h11 h0 hs hf
    obtain ⟨fu, rfl⟩ := fuS hf
    unfold fX9_next_77 qRun
    rw [h11, m_isLetter hB hn h0, Option.bind_some, if_neg (show ¬ (p < n ∧ qLeB (x p.toNat) = true) by omega), if_pos rfl, gst_eq]
    exact ⟨_, rfl, by rw [gup_miss (by omega)]; exact h11, gup_hit rfl rfl, gF9.up (by omega), gup_miss (by omega), gup_miss (by omega)⟩
  | succ k ih =>
    intro p M fu hB hn h11 h0 hs hf
    obtain ⟨fu, rfl⟩ := fuS hf
    unfold fX9_next_77 qRun
    rw [h11, m_isLetter hB hn h0, Option.bind_some]
    by_cases h : qLeB (x p.toNat) = true
    · rw [if_pos (show p < n ∧ qLeB (x p.toNat) = true from ⟨by omega, h⟩), if_neg (by omega), if_pos h, gst_eq, gwi_eq (by omega) (by omega)]
      obtain ⟨M2, e2, a1, a2, F2, a3, a4⟩ := ih (p + 1) (gup M a 11 (p + 1)) fu (hB.f9 (gF9.up (by omega))) hn (gup_hit rfl rfl) (by omega) (by omega) (by omega)
      exact ⟨M2, e2, a1, a2, (gF9.up (by omega)).trans F2, a3.trans (gup_miss (by omega)), a4.trans (gup_miss (by omega))⟩
    · rw [if_neg (show ¬ (p < n ∧ qLeB (x p.toNat) = true) from fun z => h z.2), if_pos rfl, if_neg h, gst_eq]
      exact ⟨_, rfl, by rw [gup_miss (by omega)]; exact h11, gup_hit rfl rfl, gF9.up (by omega), gup_miss (by omega), gup_miss (by omega)⟩
theorem m_digits : ∀ (k : Nat) (p d : Int) (M : gMem) (fu : Nat), BX x n → BM M a x n → M a 11 = p → M a 13 = d → 0 ≤ d → d ≤ 10000000 → 0 ≤ p → p + k = n → k < fu → ∃ M', fX9_next_120 g fu a M = some M' ∧ M' a 11 = qRun qDiB x k p ∧ M' a 12 = 1 ∧ M' a 13 = qDig x k p d ∧ gF9 a M M' ∧ M' a 10 = M a 10 := by
  intro k
  induction k with
  | zero =>
    intro p d M fu hX hB h11 h13 hd hd2 h0 hs hf
    obtain ⟨fu, rfl⟩ := fuS hf
    have hn := hX.1
    unfold fX9_next_120 qRun qDig
    rw [h11, m_isDigit hB hn.2 h0, Option.bind_some, if_neg (show ¬ (p < n ∧ qDiB (x p.toNat) = true) by omega), if_pos rfl, gst_eq]
    exact ⟨_, rfl, by rw [gup_miss (by omega)]; exact h11, gup_hit rfl rfl, by rw [gup_miss (by omega)]; exact h13, gF9.up (by omega), gup_miss (by omega)⟩
  | succ k ih =>
    intro p d M fu hX hB h11 h13 hd hd2 h0 hs hf
    obtain ⟨fu, rfl⟩ := fuS hf
    have hn := hX.1
    have hv := hX.2 p (by omega) (by omega)
    unfold fX9_next_120 qRun qDig
    rw [h11, m_isDigit hB hn.2 h0, Option.bind_some]
    by_cases h : qDiB (x p.toNat) = true
    · have hd3 : 48 ≤ x p.toNat ∧ x p.toNat ≤ 57 := of_decide_eq_true h
      rw [if_pos (show p < n ∧ qDiB (x p.toNat) = true from ⟨by omega, h⟩), if_neg (by omega), if_pos h, if_pos hd3, m_see hB hn.2 h0, Option.bind_some, if_pos (show p < n by omega), gst_eq, gst_eq, gup_miss (by omega), h11, h13, gwi_eq (x := p + 1) (by omega) (by omega), gwi_eq (x := 10 * d) (by omega) (by omega), gwi_eq (x := 10 * d + x p.toNat) (by omega) (by omega), gwi_eq (x := 10 * d + x p.toNat - 48) (by omega) (by omega)]
      generalize hM1 : gup (gup M a 13 (gmin 10000000 (10 * d + x p.toNat - 48))) a 11 (p + 1) = M1
      have F1 : gF9 a M M1 := by rw [← hM1]; exact (gF9.up (by omega)).trans (gF9.up (by omega))
      have v1 : M1 a 11 = p + 1 := by rw [← hM1]; exact gup_hit rfl rfl
      have v3 : M1 a 13 = gmin 10000000 (10 * d + x p.toNat - 48) := by rw [← hM1, gup_miss (by omega)]; exact gup_hit rfl rfl
      have v0 : M1 a 10 = M a 10 := by rw [← hM1, gup_miss (by omega), gup_miss (by omega)]
      have g2 : 0 ≤ gmin 10000000 (10 * d + x p.toNat - 48) ∧ gmin 10000000 (10 * d + x p.toNat - 48) ≤ 10000000 := by unfold gmin; split <;> omega
      obtain ⟨M2, e2, a1, a2, a3, F2, a4⟩ := ih (p + 1) _ M1 fu hX (hB.f9 F1) v1 v3 g2.1 g2.2 (by omega) (by omega) (by omega)
      exact ⟨M2, e2, a1, a2, a3, F1.trans F2, a4.trans v0⟩
    · have hd3 : ¬ (48 ≤ x p.toNat ∧ x p.toNat ≤ 57) := fun z => h (decide_eq_true z)
      rw [if_neg (show ¬ (p < n ∧ qDiB (x p.toNat) = true) from fun z => h z.2), if_pos rfl, if_neg h, if_neg hd3, gst_eq]
      exact ⟨_, rfl, by rw [gup_miss (by omega)]; exact h11, gup_hit rfl rfl, by rw [gup_miss (by omega)]; exact h13, gF9.up (by omega), gup_miss (by omega)⟩
theorem m_skip : ∀ (k : Nat) (p : Int) (M : gMem) (fu : Nat), BX x n → BM M a x n → M a 10 = p → 0 ≤ p → p + k = n → k < fu → ∃ M', fX9_next_8 g fu a M = fX9_next_8 g 1 a M' ∧ M' a 10 = qRun qSpB x k p ∧ gF9 a M M' := by
  intro k
  induction k with
  | zero =>
    intro p M fu hX hB h10 h0 hs hf
    obtain ⟨fu, rfl⟩ := fuS hf
    have hn := hX.1
    refine ⟨M, ?_, h10, gF9.rfl'⟩
    have e : ∀ f : Nat, fX9_next_8 g (f + 1) a M = fX9_next_8 g (0 + 1) a M := fun f => by
      unfold fX9_next_8
      rw [h10, m_see hB hn.2 h0, Option.bind_some, Option.bind_some, if_neg (show ¬ p < n by omega), if_neg (by omega), if_neg (by omega)]
    exact e fu
  | succ k ih =>
    intro p M fu hX hB h10 h0 hs hf
    obtain ⟨fu, rfl⟩ := fuS hf
    have hn := hX.1
    by_cases h : x p.toNat = 32
    · have h2 : qSpB (x p.toNat) = true := decide_eq_true h
      have e1 : fX9_next_8 g (fu + 1) a M = fX9_next_8 g fu a (gup M a 10 (p + 1)) := by
        conv => lhs; unfold fX9_next_8
        rw [h10, m_see hB hn.2 h0, Option.bind_some, if_pos (show p < n by omega), if_pos h, gst_eq, gwi_eq (by omega) (by omega)]
      obtain ⟨M2, e2, v2, F2⟩ := ih (p + 1) (gup M a 10 (p + 1)) fu hX (hB.f9 (gF9.up (by omega))) (gup_hit rfl rfl) (by omega) (by omega) (by omega)
      refine ⟨M2, e1.trans e2, ?_, (gF9.up (by omega)).trans F2⟩
      rw [v2]
      unfold qRun
      rw [if_pos h2]
      cases k <;> rfl
    · have h2 : ¬ qSpB (x p.toNat) = true := fun z => h (of_decide_eq_true z)
      refine ⟨M, ?_, by rw [h10]; unfold qRun; rw [if_neg h2], gF9.rfl'⟩
      have e : ∀ f : Nat, fX9_next_8 g (f + 1) a M = fX9_next_8 g (0 + 1) a M := fun f => by
        unfold fX9_next_8
        rw [h10, m_see hB hn.2 h0, Option.bind_some, Option.bind_some, if_pos (show p < n by omega), if_neg h, if_neg h]
      exact e fu
theorem m_tok {p : Int} (hX : BX x n) (hB : BM M a x n) (h11 : M a 11 = p) (h14 : M a 14 = 0) (h0 : 0 ≤ p ∧ p ≤ n) : ∃ M', fX9_next g a M = some M' ∧ MT M' a (qNs x n p) (qNe x n p) (qNk x n p) (qNd x n p) ∧ gF9 a M M' := by
  have hn := hX.1
  have B0 : BM (gup M a 10 p) a x n := hB.f9 (gF9.up (by omega))
  obtain ⟨M1, e1, v1, F1⟩ := m_skip (g := g) (n - p).toNat p (gup M a 10 p) gF hX B0 (gup_hit rfl rfl) h0.1 (by omega) (by unfold gF; omega)
  obtain ⟨s1, s2, s3⟩ := qRun_spec (P := qSpB) (x := x) (n - p).toNat p
  have B1 := B0.f9 F1
  have F01 : gF9 a M M1 := (gF9.up (by omega)).trans F1
  have w14 : M1 a 14 = 0 := by rw [F01.2 14 (by omega)]; exact h14
  unfold fX9_next
  rw [h11, gst_eq, e1]
  have es : qRun qSpB x (n - p).toNat p = qNs x n p := rfl
  rw [es] at s1 s2 s3 v1
  unfold qNe qNk qNd
  generalize qNs x n p = s at *
  show ∃ M', fX9_next_8 g (0 + 1) a M1 = some M' ∧ _
  unfold fX9_next_8
  rw [v1, m_see B1 hn.2 (by omega), Option.bind_some]
  have h32 : ¬ (if s < n then x s.toNat else -1) = 32 := by
    by_cases h : s < n
    · rw [if_pos h]; exact fun z => s3 (by omega) (decide_eq_true z)
    · rw [if_neg h]; omega
  rw [if_neg h32, gst_eq, gst_eq]
  generalize hM2 : gup (gup M1 a 11 s) a 13 0 = M2
  have F2 : gF9 a M1 M2 := by rw [← hM2]; exact (gF9.up (by omega)).trans (gF9.up (by omega))
  have u10 : M2 a 10 = s := by rw [← hM2, gup_miss (by omega), gup_miss (by omega)]; exact v1
  have u11 : M2 a 11 = s := by rw [← hM2, gup_miss (by omega)]; exact gup_hit rfl rfl
  have u13 : M2 a 13 = 0 := by rw [← hM2]; exact gup_hit rfl rfl
  have u14 : M2 a 14 = 0 := by rw [F2.2 14 (by omega)]; exact w14
  have B2 := B1.f9 F2
  rw [u10, B2.1]
  by_cases he : n ≤ s
  · simp only [if_pos he]
    rw [if_neg (by omega), gst_eq]
    exact ⟨_, rfl, ⟨by rw [gup_miss (by omega)]; exact u10, by rw [gup_miss (by omega)]; exact u11, gup_hit rfl rfl, by rw [gup_miss (by omega)]; exact u13, by rw [gup_miss (by omega)]; exact u14⟩, (F01.trans F2).trans (gF9.up (by omega))⟩
  · simp only [if_neg he]
    rw [if_pos (by omega), m_isLetter B2 hn.2 (by omega), Option.bind_some]
    by_cases hl : qLeB (x s.toNat) = true
    · simp only [if_pos hl]
      rw [if_pos (show s < n ∧ qLeB (x s.toNat) = true from ⟨by omega, hl⟩), if_neg (by omega)]
      obtain ⟨M3, e3, a1, a2, F3, a3, a4⟩ := m_letters (g := g) (n - s).toNat s M2 gF B2 hn.2 u11 (by omega) (by omega) (by unfold gF; omega)
      exact ⟨M3, e3, ⟨a3.trans u10, a1, a2, a4.trans u13, by rw [F3.2 14 (by omega)]; exact u14⟩, (F01.trans F2).trans F3⟩
    · simp only [if_neg hl]
      rw [if_neg (show ¬ (s < n ∧ qLeB (x s.toNat) = true) from fun z => hl z.2), if_pos rfl, m_isDigit B2 hn.2 (by omega), Option.bind_some]
      by_cases hd : qDiB (x s.toNat) = true
      · simp only [if_pos hd]
        rw [if_pos (show s < n ∧ qDiB (x s.toNat) = true from ⟨by omega, hd⟩), if_neg (by omega)]
        obtain ⟨M3, e3, a1, a2, a3, F3, a4⟩ := m_digits (g := g) (n - s).toNat s 0 M2 gF hX B2 u11 u13 (by omega) (by omega) (by omega) (by omega) (by unfold gF; omega)
        exact ⟨M3, e3, ⟨a4.trans u10, a1, a2, a3, by rw [F3.2 14 (by omega)]; exact u14⟩, (F01.trans F2).trans F3⟩
      · simp only [if_neg hd]
        have hd0 : qDig x (n - s).toNat s 0 = 0 := by
          cases (n - s).toNat with
          | zero => rfl
          | succ k =>
            unfold qDig
            rw [if_neg (fun z => hd (decide_eq_true z))]
        rw [if_neg (show ¬ (s < n ∧ qDiB (x s.toNat) = true) from fun z => hd z.2), if_pos rfl, gst_eq, gst_eq, u11, gwi_eq (by omega) (by omega), hd0]
        exact ⟨_, rfl, ⟨by rw [gup_miss (by omega), gup_miss (by omega)]; exact u10, by rw [gup_miss (by omega)]; exact gup_hit rfl rfl, gup_hit rfl rfl, by rw [gup_miss (by omega), gup_miss (by omega)]; exact u13, by rw [gup_miss (by omega), gup_miss (by omega)]; exact u14⟩, ((F01.trans F2).trans (gF9.up (by omega))).trans (gF9.up (by omega))⟩
end Next
