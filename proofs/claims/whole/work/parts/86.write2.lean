/-! PURE: names and stacks written; writeStacks, writtenByte, errorPosition -/
theorem sshr_nat {x D : Int64} {m d : Nat} (hx : x.toInt = (m : Int)) (hD : (D.toBitVec.smod 64).toNat = d) : (x >>> D).toInt = ((m / 2 ^ d : Nat) : Int) := by
  have e : (x >>> D).toInt = x.toInt >>> d := by
    rw [← hD]
    exact BitVec.toInt_sshiftRight ..
  rw [e, Int.shiftRight_eq_div_pow, hx]
  rfl
theorem glshr_nat {m k : Nat} (hm : m < 9223372036854775808) (hk : k ≤ 7) : glshr (m : Int) (8 * (k : Int)) = ((m / 2 ^ (8 * k) : Nat) : Int) := by
  have hD : ∀ k : Fin 8, (((gi (8 * (k.val : Int))).toInt64 &&& 63).toBitVec.smod 64).toNat = 8 * k.val := by decide +kernel
  unfold glshr
  refine sshr_nat (gj_toInt ⟨by omega, by omega⟩) ?_
  exact hD ⟨k, by omega⟩
theorem gland_nat {m : Nat} (hm : m < 9223372036854775808) : gland (m : Int) 255 = ((m % 256 : Nat) : Int) := by
  unfold gland
  have h : (gj (m : Int) &&& gj 255).toBitVec.toNat = m % 256 := by
    rw [Int64.toBitVec_and, BitVec.toNat_and, gj_nat (by omega)]
    have : (gj 255).toBitVec.toNat = 2 ^ 8 - 1 := by decide
    rw [this, Nat.and_two_pow_sub_one_eq_mod, show ((m : Int)).toNat = m by omega]
  rw [gj_of_nat h (by omega)]
theorem qPack_byte {f : Int → Int} : ∀ n : Nat, qBytes f n → ∀ k : Nat, (k < n → (qPack f n).toNat / 2 ^ (8 * k) % 256 = (f ((n : Int) - 1 - k)).toNat) ∧ (n ≤ k → (qPack f n).toNat / 2 ^ (8 * k) = 0) := by
  intro n
  induction n with
  | zero =>
    intro hb k
    refine ⟨fun h => by omega, fun _ => ?_⟩
    show (0 : Int).toNat / _ = 0
    rw [tn0, Nat.zero_div]
  | succ n ih =>
    intro hb k
    have hb' : qBytes f n := fun j q1 q2 => hb j q1 (by omega)
    have h0 := (qPack_rng n hb').1
    have hf := hb n (by omega) (by omega)
    have e : (qPack f (n + 1)).toNat = (qPack f n).toNat * 256 + (f n).toNat := by
      show (qPack f n * 256 + f n).toNat = _
      omega
    cases k with
    | zero =>
      refine ⟨fun _ => ?_, fun h => by omega⟩
      rw [e, Nat.mul_zero, Nat.pow_zero, Nat.div_one, show ((n + 1 : Nat) : Int) - 1 - ((0 : Nat) : Int) = (n : Int) by omega]
      omega
    | succ k =>
      obtain ⟨i1, i2⟩ := ih hb' k
      have ep : 2 ^ (8 * (k + 1)) = 256 * 2 ^ (8 * k) := by
        rw [Nat.mul_succ, Nat.pow_add, Nat.mul_comm]
      have ed : (qPack f (n + 1)).toNat / 2 ^ (8 * (k + 1)) = (qPack f n).toNat / 2 ^ (8 * k) := by
        rw [ep, ← Nat.div_div_eq_div_mul, e]
        congr 1
        omega
      rw [ed]
      refine ⟨fun h => ?_, fun h => i2 (by omega)⟩
      rw [i1 (by omega), show ((n + 1 : Nat) : Int) - 1 - ((k + 1 : Nat) : Int) = (n : Int) - 1 - k by omega]
def qLt (f : Int → Int) (n : Nat) : Nat → List Int
  | 0 => []
  | k + 1 => (if k < n then [f ((n : Int) - 1 - k)] else []) ++ qLt f n k
def qLr (f : Int → Int) : Nat → Int → List Int
  | 0, _ => []
  | m + 1, i => f i :: qLr f m (i + 1)
theorem qLt_le {f : Int → Int} {n : Nat} : ∀ k : Nat, k ≤ n → qLt f n k = qLr f k ((n : Int) - k) := by
  intro k
  induction k with
  | zero => intro _; rfl
  | succ k ih =>
    intro h
    unfold qLt qLr
    rw [if_pos (by omega), ih (by omega), show ((n : Int) - 1 - k) = (n : Int) - ((k + 1 : Nat) : Int) by omega, show (n : Int) - ((k + 1 : Nat) : Int) + 1 = (n : Int) - k by omega]
    rfl
theorem qLt_ge {f : Int → Int} {n : Nat} : ∀ k : Nat, n ≤ k → qLt f n k = qLr f n 0 := by
  intro k
  induction k with
  | zero =>
    intro h
    have : n = 0 := by omega
    subst this
    rfl
  | succ k ih =>
    intro h
    by_cases e : n ≤ k
    · unfold qLt
      rw [if_neg (by omega), ih e, List.nil_append]
    · have e2 : n = k + 1 := by omega
      have := qLt_le (f := f) (n := n) (k + 1) (by omega)
      rw [this, e2, show ((k + 1 : Nat) : Int) - ((k + 1 : Nat) : Int) = 0 by omega]
theorem qLt_len {f : Int → Int} {n : Nat} : ∀ k : Nat, (qLt f n k).length ≤ k := by
  intro k
  induction k with
  | zero => exact Nat.le_refl 0
  | succ k ih =>
    unfold qLt
    split
    · simp only [List.length_append, List.length_cons, List.length_nil]; omega
    · simp only [List.length_append, List.length_nil]; omega
def qNL (r : gRow) (s : Int) : Nat → Int → List Int
  | 0, _ => []
  | n + 1, k => qNm1 (rs r s (5 + k)) ++ (if n = 0 then [] else 44 :: qNL r s n (k + 1))
def qNameL (r : gRow) (p : Int) : Nat → Int → List Int
  | 0, _ => []
  | n + 1, i => if rp r p (10 + i) ≤ 0 then [] else rp r p (10 + i) :: qNameL r p n (i + 1)
def qPileL (r : gRow) (s : Int) : List Int := (if s ≤ 0 then [] else [32]) ++ (qNL r s (rs r s 1).toNat 0 ++ (if rs r s 2 = -1 then 35 :: qNm1 (rs r s 3) else 64 :: qNameL r (rs r s 2) 8 0))
def qTextL (r : gRow) : Nat → Int → List Int
  | 0, _ => []
  | n + 1, s => qPileL r s ++ qTextL r n (s + 1)
def sWrite (r : gRow) : List Int := qTextL r (r 2).toNat 0
def sByte (L : List Int) (x : Int) : Nat ⊕ Int := if 0 ≤ x ∧ x < (L.length : Int) then .inr (L.getD x.toNat 0) else .inl 3
theorem qNL_len {r : gRow} {s : Int} : ∀ (n : Nat) (k : Int), (qNL r s n k).length ≤ 8 * n := by
  intro n
  induction n with
  | zero => intro k; exact Nat.le_refl 0
  | succ n ih =>
    intro k
    have h1 := qNm1_len (v := rs r s (5 + k))
    have h2 := ih (k + 1)
    unfold qNL
    split
    · simp only [List.length_append, List.length_nil]; omega
    · simp only [List.length_append, List.length_cons]; omega
theorem qNameL_len {r : gRow} {p : Int} : ∀ (n : Nat) (i : Int), (qNameL r p n i).length ≤ n := by
  intro n
  induction n with
  | zero => intro i; exact Nat.le_refl 0
  | succ n ih =>
    intro i
    have h2 := ih (i + 1)
    unfold qNameL
    split
    · simp
    · simp only [List.length_cons]; omega
theorem qPileL_len {r : gRow} {s : Int} (h : rs r s 1 ≤ 16) : (qPileL r s).length ≤ 138 := by
  have h1 := qNL_len (r := r) (s := s) (rs r s 1).toNat 0
  have h2 := qNm1_len (v := rs r s 3)
  have h3 := qNameL_len (r := r) (p := rs r s 2) 8 0
  unfold qPileL
  split <;> split <;> simp only [List.length_append, List.length_cons, List.length_nil] <;> omega
section Write2
variable {M M' : gMem} {w a b d : Nat} {L : List Int} {K : Int} {g : Nat → Nat} {r : gRow}
theorem qTextL_len (hO : qOK r K) : ∀ (n : Nat) (s : Int), 0 ≤ s → s + n ≤ r 2 → (qTextL r n s).length ≤ 138 * n := by
  intro n
  induction n with
  | zero => intro s _ _; exact Nat.le_refl 0
  | succ n ih =>
    intro s h0 hs
    have h1 := qPileL_len (r := r) (s := s) (hO.len h0 (by omega)).2
    have h2 := ih (s + 1) (by omega) (by omega)
    unfold qTextL
    simp only [List.length_append]
    omega
theorem c_name_lp {f : Int → Int} {n : Nat} (hb : qBytes f n) (hn : n ≤ 8) : ∀ (k : Nat) (M : gMem) (L : List Int) (fu : Nat), k ≤ 8 → WC M w L → L.length + k ≤ 2000 → k < fu → ∃ M', fX7_addName_3 g fu w (qPack f n) (8 * (k : Int) - 8) M = some M' ∧ WC M' w (L ++ qLt f n k) ∧ gFW w (w + 1) 1 M M' := by
  have hr := qPack_long hb hn
  intro k
  induction k with
  | zero =>
    intro M L fu hk hW hl hf
    obtain ⟨fu, rfl⟩ := fuS hf
    unfold fX7_addName_3 qLt
    rw [if_pos (by omega), List.append_nil]
    exact ⟨M, rfl, hW, gFW.rfl'⟩
  | succ k ih =>
    intro M L fu hk hW hl hf
    obtain ⟨fu, rfl⟩ := fuS hf
    obtain ⟨b1, b2⟩ := qPack_byte n hb k
    have ex : qPack f n = ((qPack f n).toNat : Int) := by omega
    have hd : (qPack f n).toNat / 2 ^ (8 * k) ≤ (qPack f n).toNat := Nat.div_le_self _ _
    have eb : gwi (gland (glshr (qPack f n) (8 * (k : Int))) 255) = (((qPack f n).toNat / 2 ^ (8 * k) % 256 : Nat) : Int) := by
      rw [ex, glshr_nat (by omega) (by omega), gland_nat (by omega), gwi_eq (by omega) (by omega)]
      simp only [Int.toNat_natCast]
    unfold fX7_addName_3 fX7_addName_28 qLt
    rw [show 8 * ((k + 1 : Nat) : Int) - 8 = 8 * (k : Int) by omega, if_neg (by omega)]
    simp only [gst_eq]
    rw [eb, gwi_eq (x := 8 * (k : Int) + -8) (by omega) (by omega), show 8 * (k : Int) + -8 = 8 * (k : Int) - 8 by omega]
    by_cases hc : k < n
    · have hf1 := hb ((n : Int) - 1 - k) (by omega) (by omega)
      rw [b1 hc, show (((f ((n : Int) - 1 - k)).toNat : Nat) : Int) = f ((n : Int) - 1 - k) by omega, if_neg (by omega), if_pos hc]
      obtain ⟨M1, e1, W1, F1⟩ := c_addByte (g := g) (c := f ((n : Int) - 1 - k)) hW (by omega) (by omega)
      obtain ⟨M2, e2, W2, F2⟩ := ih M1 (L ++ [f ((n : Int) - 1 - k)]) fu (by omega) W1 (by simp only [List.length_append, List.length_cons, List.length_nil]; omega) (by omega)
      rw [e1, Option.bind_some, ← List.append_assoc]
      exact ⟨M2, e2, W2, F1.trans F2⟩
    · rw [b2 (by omega), if_pos (by omega), if_neg hc, List.nil_append]
      exact ih M L fu (by omega) hW (by omega) (by omega)
theorem qNameL_eq {p : Int} {m : Nat} (hN : qNameOK r p m) : ∀ (k : Nat) (i : Nat), i + k = m → qNameL r p (8 - i) (i : Int) = qLr (fun j => rp r p (10 + j)) k (i : Int) := by
  obtain ⟨n1, n2, n3⟩ := hN
  intro k
  induction k with
  | zero =>
    intro i hs
    by_cases h8 : i = 8
    · rw [h8]; rfl
    · rw [show 8 - i = (7 - i) + 1 by omega]
      unfold qNameL qLr
      rw [if_pos (by rw [n3 i (by omega) (by omega)]; omega)]
  | succ k ih =>
    intro i hs
    have := n2 i (by omega) (by omega)
    have I := ih (i + 1) (by omega)
    rw [show 8 - i = (8 - (i + 1)) + 1 by omega]
    unfold qNameL qLr
    rw [if_neg (by omega)]
    rw [show ((i + 1 : Nat) : Int) = (i : Int) + 1 by omega] at I
    rw [I]
theorem c_addName {p : Int} (hP : DRp M b r p) (hb : ¬ b = w) (hW : WC M w L) (hl : L.length + 8 ≤ 2000) : ∃ M', fX7_addName g w (M b 3) M = some M' ∧ WC M' w (L ++ qNameL r p 8 0) ∧ gFW w (w + 1) 1 M M' := by
  obtain ⟨-, -, -, -, m, hN, hv⟩ := hP
  have hb' : qBytes (fun k => rp r p (10 + k)) m := fun k q1 q2 => by
    have := hN.2.1 k q1 q2
    show 1 ≤ rp r p (10 + k) ∧ rp r p (10 + k) ≤ 127
    omega
  obtain ⟨M1, e1, W1, F1⟩ := c_name_lp (g := g) hb' hN.1.2 8 M L gF (by omega) hW hl (by unfold gF; omega)
  have e := qNameL_eq hN m 0 (by omega)
  rw [qLt_ge 8 hN.1.2] at W1
  have e' : qNameL r p 8 0 = qLr (fun j => rp r p (10 + j)) m 0 := e
  unfold fX7_addName
  rw [hv, e']
  exact ⟨M1, e1, W1, F1⟩
theorem c_nums_lp {s : Int} {c : Nat} (hOs : 0 ≤ rs r s 1 ∧ rs r s 1 ≤ 16) (hn : ∀ k : Int, 0 ≤ k → k < rs r s 1 → -999999 ≤ rs r s (5 + k) ∧ rs r s (5 + k) ≤ 999999) (hcw : ¬ c = w ∧ ¬ c = w + 1 ∧ ¬ c + 1 = w ∧ ¬ c + 1 = w + 1) : ∀ (n : Nat) (k : Int) (M : gMem) (L : List Int) (fu : Nat), DRs M c r s → 0 ≤ k → k + n = rs r s 1 → WC M w L → L.length + 8 * n ≤ 2000 → n < fu → ∃ M', fX7_addNumbers_7 g fu w c ((n : Int) - 1) M = some M' ∧ WC M' w (L ++ qNL r s n k) ∧ gFW w (w + 1) 1 M M' := by
  intro n
  induction n with
  | zero =>
    intro k M L fu hS h0 hs hW hl hf
    obtain ⟨fu, rfl⟩ := fuS hf
    unfold fX7_addNumbers_7 qNL
    rw [if_pos (by omega), List.append_nil]
    exact ⟨M, rfl, hW, gFW.rfl'⟩
  | succ n ih =>
    intro k M L fu hS h0 hs hW hl hf
    obtain ⟨fu, rfl⟩ := fuS hf
    have eN : qNum r s (((n + 1 : Nat) : Int) - 1) = rs r s (5 + k) := by
      unfold qNum
      rw [show 5 + rs r s 1 - 1 - (((n + 1 : Nat) : Int) - 1) = 5 + k by omega]
    obtain ⟨M1, e1, W1, F1⟩ := c_addNum (g := g) (v := rs r s (5 + k)) (hn k h0 (by omega)) hW (by omega)
    have hl1 := qNm1_len (v := rs r s (5 + k))
    have hS1 : ∀ M2 : gMem, gFW w (w + 1) 1 M M2 → DRs M2 c r s := fun M2 F => hS.congr hOs.2 (fun _ _ _ => rfl) (F.1 c hcw.1 hcw.2.1) (F.1 (c + 1) hcw.2.2.1 hcw.2.2.2)
    unfold fX7_addNumbers_7 qNL fX7_addNumbers_30
    rw [if_neg (by omega), c_numberAt_in hS hOs (by omega), Option.bind_some, eN, e1, Option.bind_some]
    simp only [gst_eq]
    rw [gwi_eq (by omega) (by omega), show ((n + 1 : Nat) : Int) - 1 + -1 = (n : Int) - 1 by omega]
    by_cases hz : n = 0
    · subst hz
      rw [if_pos (by omega), if_pos rfl, List.append_nil]
      obtain ⟨fu, rfl⟩ := fuS (show 0 < fu by omega)
      unfold fX7_addNumbers_7
      rw [if_pos (by omega)]
      exact ⟨M1, rfl, W1, F1⟩
    · obtain ⟨M2, e2, W2, F2⟩ := c_addByte (g := g) (c := 44) W1 (by simp only [List.length_append]; omega) (by omega)
      obtain ⟨M3, e3, W3, F3⟩ := ih (k + 1) M2 _ fu (hS1 M2 (F1.trans F2)) (by omega) (by omega) W2 (by simp only [List.length_append, List.length_cons, List.length_nil]; omega) (by omega)
      rw [if_neg (by omega), e2, Option.bind_some, if_neg hz]
      refine ⟨M3, e3, ?_, (F1.trans F2).trans F3⟩
      rw [List.append_assoc, List.append_assoc] at W3
      exact W3
theorem c_pile_lp (hO : qOK r K) (hdw : d + 65 ≤ w) : ∀ (n : Nat) (s : Int) (M : gMem) (L : List Int) (fu : Nat), DR M d r K → 0 ≤ s → s + n = r 2 → WC M w L → L.length + 138 * n ≤ 2000 → n < fu → ∃ M', fX7_writePiles_7 g fu w d s M = some M' ∧ WC M' w (L ++ qTextL r n s) ∧ gFW w (w + 1) 1 M M' := by
  have h1 := hO.2.1
  have h2 := hO.2.2.1
  intro n
  induction n with
  | zero =>
    intro s M L fu hD h0 hs hW hl hf
    obtain ⟨fu, rfl⟩ := fuS hf
    unfold fX7_writePiles_7 qTextL
    rw [hD.1.2.2.1, if_pos (by omega), List.append_nil]
    exact ⟨M, rfl, hW, gFW.rfl'⟩
  | succ n ih =>
    intro s M L fu hD h0 hs hW hl hf
    obtain ⟨fu, rfl⟩ := fuS hf
    have hs2 : 0 ≤ s ∧ s < r 2 := by omega
    have hOs := hO.2.2.2.2.2.2.2 s hs2.1 hs2.2
    have hlen := hO.len hs2.1 hs2.2
    have hDf : ∀ M2 : gMem, gFW w (w + 1) 1 M M2 → DR M2 d r K := fun M2 F => hD.frame hO (fun y q1 q2 => F.1 y (by omega) (by omega))
    -- from the numbers on
    have body : ∀ (M0 : gMem) (L0 : List Int), gFW w (w + 1) 1 M M0 → WC M0 w L0 → L0.length + 138 * n + 137 ≤ 2000 → L0 = L ++ (if s ≤ 0 then [] else [32]) → ∃ M', fX7_writePiles_36 g (fX7_writePiles_7 g fu) w d s (d + 2 + (39 + 2 * s.toNat)) M0 = some M' ∧ WC M' w (L ++ (qPileL r s ++ qTextL r n (s + 1))) ∧ gFW w (w + 1) 1 M M' := by
      intro M0 L0 F0 W0 hl0 hL0
      have D0 := hDf M0 F0
      have hS0 := D0.2.2.1 s hs2.1 hs2.2
      have hb1 := qNL_len (r := r) (s := s) (rs r s 1).toNat 0
      obtain ⟨M1, e1, W1, F1⟩ := c_nums_lp (g := g) (c := d + 2 + (39 + 2 * s.toNat)) hlen hOs.2.2.2.2.2.2.1 (by omega) (rs r s 1).toNat 0 M0 L0 gF hS0 (by omega) (by omega) W0 (by omega) (by unfold gF; omega)
      have F01 := F0.trans F1
      have D1 := hDf M1 F01
      have hS1 := D1.2.2.1 s hs2.1 hs2.2
      have eA : fX7_addNumbers g w (d + 2 + (39 + 2 * s.toNat)) M0 = some M1 := by
        unfold fX7_addNumbers
        rw [gst_eq, hS0.2.1, gwi_eq (by omega) (by omega)]
        rw [show ((rs r s 1).toNat : Int) - 1 = rs r s 1 - 1 by omega] at e1
        exact e1
      have fin : ∀ (M2 : gMem) (L2 : List Int), gFW w (w + 1) 1 M M2 → WC M2 w L2 → L2.length + 138 * n ≤ 2000 → L2 = L ++ qPileL r s → ∃ M', fX7_writePiles_88 g (fX7_writePiles_7 g fu) w d s M2 = some M' ∧ WC M' w (L ++ (qPileL r s ++ qTextL r n (s + 1))) ∧ gFW w (w + 1) 1 M M' := by
        intro M2 L2 F2 W2 hl2 hL2
        unfold fX7_writePiles_88
        rw [gst_eq, gwi_eq (by omega) (by omega)]
        obtain ⟨M3, e3, W3, F3⟩ := ih (s + 1) M2 L2 fu (hDf M2 F2) (by omega) (by omega) W2 hl2 (by omega)
        rw [hL2, List.append_assoc] at W3
        exact ⟨M3, e3, W3, F2.trans F3⟩
      unfold fX7_writePiles_36
      rw [eA, Option.bind_some, hS1.2.2.1, c_procAt D1.1 h1, Option.bind_some]
      have hh := hOs.2.2.1
      have hk := hOs.2.2.2.1
      have hiff := hOs.2.2.2.2.1
      have h0b := hO.1
      have hpl := qPileL_len (r := r) (s := s) hlen.2
      by_cases hz : rs r s 2 = -1
      · obtain ⟨M2, e2, W2, F2⟩ := c_addByte (g := g) (c := 35) W1 (by simp only [List.length_append]; omega) (by omega)
        have D2 := hDf M2 (F01.trans F2)
        have hS2 := D2.2.2.1 s hs2.1 hs2.2
        obtain ⟨M3, e3, W3, F3⟩ := c_addNum (g := g) (v := rs r s 3) (by omega) W2 (by simp only [List.length_append, List.length_cons, List.length_nil]; omega)
        rw [if_neg (show ¬ (0 ≤ rs r s 2 ∧ rs r s 2 < r 1) by omega), if_pos rfl, e2, Option.bind_some, hS2.2.2.2.1, e3, Option.bind_some]
        have hq : L0 ++ qNL r s (rs r s 1).toNat 0 ++ [35] ++ qNm1 (rs r s 3) = L ++ qPileL r s := by
          unfold qPileL
          rw [if_pos hz, hL0]
          simp only [List.append_assoc, List.cons_append, List.nil_append]
        refine fin M3 _ ((F01.trans F2).trans F3) W3 ?_ hq
        rw [hq]
        simp only [List.length_append]
        omega
      · have hp : 0 ≤ rs r s 2 ∧ rs r s 2 < r 1 := by omega
        obtain ⟨M2, e2, W2, F2⟩ := c_addByte (g := g) (c := 64) W1 (by simp only [List.length_append]; omega) (by omega)
        have D2 := hDf M2 (F01.trans F2)
        have hP2 := D2.2.1 (rs r s 2) hp.1 hp.2
        obtain ⟨M3, e3, W3, F3⟩ := c_addName (g := g) (w := w) hP2 (by omega) W2 (by simp only [List.length_append, List.length_cons, List.length_nil]; omega)
        rw [if_pos hp, if_neg (show ¬ d + 1 + (8 + 4 * (rs r s 2).toNat) = 0 by omega), e2, Option.bind_some, e3, Option.bind_some]
        have hq : L0 ++ qNL r s (rs r s 1).toNat 0 ++ [64] ++ qNameL r (rs r s 2) 8 0 = L ++ qPileL r s := by
          unfold qPileL
          rw [if_neg hz, hL0]
          simp only [List.append_assoc, List.cons_append, List.nil_append]
        refine fin M3 _ ((F01.trans F2).trans F3) W3 ?_ hq
        rw [hq]
        simp only [List.length_append]
        omega
    unfold fX7_writePiles_7 qTextL
    rw [hD.1.2.2.1, if_neg (by omega), c_pileAt_in hD.1 h2 hs2, Option.bind_some, if_neg (show ¬ d + 2 + (39 + 2 * s.toNat) = 0 by omega)]
    by_cases hz : s ≤ 0
    · rw [if_pos hz]
      exact body M L gFW.rfl' hW (by omega) (by rw [if_pos hz, List.append_nil])
    · obtain ⟨M1, e1, W1, F1⟩ := c_addByte (g := g) (c := 32) hW (by omega) (by omega)
      rw [if_neg hz, e1, Option.bind_some]
      exact body M1 _ F1 W1 (by simp only [List.length_append, List.length_cons, List.length_nil]; omega) (by rw [if_neg hz])
theorem a_write (hO : qOK r K) (hD : DR M (a + 1) r K) : ∃ M', fX8_writeStacks g a M = some (((sWrite r).length : Int), M') ∧ WC M' (a + 852) (sWrite r) ∧ ∀ y : Nat, ¬ y = a + 852 → ¬ y = a + 853 → M' y = M y := by
  have h2 := hO.2.2.1
  have W0 : WC (gup M (a + 852) 1 0) (a + 852) [] := ⟨gup_hit rfl rfl, fun i hi => by cases hi⟩
  obtain ⟨M1, e1, W1, F1⟩ := c_pile_lp (g := g) (w := a + 852) (d := a + 1) hO (by omega) (r 2).toNat 0 (gup M (a + 852) 1 0) [] gF (hD.frame hO (fun y q1 q2 => gup_row (by omega))) (by omega) (by omega) W0 (by simp only [List.length_nil]; omega) (by unfold gF; omega)
  unfold fX8_writeStacks fX7_writePiles sWrite
  rw [gst_eq, e1, Option.bind_some]
  rw [List.nil_append] at W1
  exact ⟨M1, by rw [W1.1], W1, fun y q1 q2 => by rw [F1.1 y q1 q2, gup_row q1]⟩
theorem a_byte {x : Int} (hW : WC M (a + 852) L) (hl : L.length ≤ 2000) : fX8_writtenByte g a x M = some (sByte L x) := by
  unfold fX8_writtenByte sByte
  rw [hW.1]
  by_cases h : 0 ≤ x ∧ x < (L.length : Int)
  · rw [if_neg (by omega), if_neg (by omega), if_pos (by omega), if_pos (by omega), if_pos h, hW.2 x.toNat (by omega)]
  · rw [if_neg h]
    by_cases h1 : x < 0
    · rw [if_pos h1]
    · rw [if_neg h1, if_pos (by omega)]
/-! the reference -/
theorem m_ofSR (hr : M (a + 1) = r) {s k : Int} (hs : 0 ≤ s ∧ s < 12) (hk : 0 ≤ k ∧ k < 21) : fX9_ofStack g a s k M = some (rs r s k) := by rw [mrow_r hr]; exact m_ofS hs hk
theorem m_name_wlp {k12 : Nat → Int → gMem → Option (Int × gMem)} {s p : Int} (hp : 0 ≤ p ∧ p < 8) : ∀ (n : Nat) (i : Int) (M : gMem) (L : List Int) (fu : Nat), M (a + 1) = r → 0 ≤ i → i + n = 8 → WM M a L → L.length + n ≤ 2400 → n < fu → ∃ M', fX9_writeStacks_112 g k12 fu a s p i M = fX9_writeStacks_154 g k12 a s M' ∧ WM M' a (L ++ qNameL r p n i) ∧ gFW a (a + 8) 19 M M' := by
  intro n
  induction n with
  | zero =>
    intro i M L fu hr h0 hs hW hl hf
    obtain ⟨fu, rfl⟩ := fuS hf
    unfold fX9_writeStacks_112 qNameL
    rw [if_neg (by omega), if_pos (by omega), List.append_nil]
    exact ⟨M, rfl, hW, gFW.rfl'⟩
  | succ n ih =>
    intro i M L fu hr h0 hs hW hl hf
    obtain ⟨fu, rfl⟩ := fuS hf
    unfold fX9_writeStacks_112 qNameL
    rw [if_neg (by omega), if_neg (by omega), gwi_eq (x := 10 + i) (by omega) (by omega), m_ofR hr hp (by omega), Option.bind_some, Option.bind_some]
    by_cases hz : rp r p (10 + i) ≤ 0
    · rw [if_pos hz, if_pos hz, List.append_nil]
      exact ⟨M, rfl, hW, gFW.rfl'⟩
    · obtain ⟨M1, e1, W1, F1⟩ := m_writes (g := g) (c := rp r p (10 + i)) hW (by omega)
      obtain ⟨M2, e2, W2, F2⟩ := ih (i + 1) M1 _ fu (by rw [F1.1 (a + 1) (by omega) (by omega)]; exact hr) (by omega) (by omega) W1 (by simp only [List.length_append, List.length_cons, List.length_nil]; omega) (by omega)
      rw [if_neg hz, if_neg hz, e1, Option.bind_some, gst_eq, gwi_eq (by omega) (by omega)]
      rw [List.append_assoc] at W2
      exact ⟨M2, e2, W2, F1.trans F2⟩
theorem m_nums_lp {k12 : Nat → Int → gMem → Option (Int × gMem)} {s : Int} (hs12 : 0 ≤ s ∧ s < 12) (hOs : 0 ≤ rs r s 1 ∧ rs r s 1 ≤ 16) (hn : ∀ k : Int, 0 ≤ k → k < rs r s 1 → -999999 ≤ rs r s (5 + k) ∧ rs r s (5 + k) ≤ 999999) (h2 : rs r s 2 = -1 ∨ (0 ≤ rs r s 2 ∧ rs r s 2 < 8)) (h3 : -1 ≤ rs r s 3 ∧ rs r s 3 ≤ 4) : ∀ (n : Nat) (k : Int) (M : gMem) (L : List Int) (fu : Nat), M (a + 1) = r → 0 ≤ k → k + n = rs r s 1 → WM M a L → L.length + 8 * n + 10 ≤ 2400 → n < fu → ∃ M', fX9_writeStacks_34 g k12 fu a s k M = fX9_writeStacks_154 g k12 a s M' ∧ WM M' a (L ++ ((if n = 0 then [] else (if k ≤ 0 then [] else [44]) ++ qNL r s n k) ++ (if rs r s 2 = -1 then 35 :: qNm1 (rs r s 3) else 64 :: qNameL r (rs r s 2) 8 0))) ∧ gFW a (a + 8) 19 M M' := by
  intro n
  induction n with
  | zero =>
    intro k M L fu hr h0 hs hW hl hf
    obtain ⟨fu, rfl⟩ := fuS hf
    unfold fX9_writeStacks_34 fX9_writeStacks_92 fX9_writeStacks_110
    rw [m_ofSR hr hs12 (by omega), Option.bind_some, if_pos (by omega), m_ofSR hr hs12 (by omega), Option.bind_some, if_pos rfl, List.nil_append]
    by_cases hz : rs r s 2 = -1
    · obtain ⟨M1, e1, W1, F1⟩ := m_writes (g := g) (c := 35) hW (by omega)
      have hr1 : M1 (a + 1) = r := by rw [F1.1 (a + 1) (by omega) (by omega)]; exact hr
      obtain ⟨M2, e2, W2, F2⟩ := m_wnum (g := g) (v := rs r s 3) (by omega) W1 (by simp only [List.length_append, List.length_cons, List.length_nil]; omega)
      rw [if_pos hz, if_pos hz, e1, Option.bind_some, if_pos hz, m_ofSR hr1 hs12 (by omega), Option.bind_some, e2, Option.bind_some]
      have e112 : fX9_writeStacks_112 g k12 gF a s (rs r s 2) 0 M2 = fX9_writeStacks_154 g k12 a s M2 := by
        show fX9_writeStacks_112 g k12 (19999 + 1) a s (rs r s 2) 0 M2 = _
        unfold fX9_writeStacks_112
        rw [if_pos hz]
      rw [e112]
      rw [List.append_assoc] at W2
      exact ⟨M2, rfl, W2, F1.trans F2⟩
    · obtain ⟨M1, e1, W1, F1⟩ := m_writes (g := g) (c := 64) hW (by omega)
      have hr1 : M1 (a + 1) = r := by rw [F1.1 (a + 1) (by omega) (by omega)]; exact hr
      obtain ⟨M2, e2, W2, F2⟩ := m_name_wlp (g := g) (k12 := k12) (s := s) (p := rs r s 2) (by omega) 8 0 M1 _ gF hr1 (by omega) (by omega) W1 (by simp only [List.length_append, List.length_cons, List.length_nil]; omega) (by unfold gF; omega)
      rw [if_neg hz, if_neg hz, e1, Option.bind_some, if_neg hz]
      rw [List.append_assoc] at W2
      exact ⟨M2, e2, W2, F1.trans F2⟩
  | succ n ih =>
    intro k M L fu hr h0 hs hW hl hf
    obtain ⟨fu, rfl⟩ := fuS hf
    have rest : ∀ (M0 : gMem) (L0 : List Int), gFW a (a + 8) 19 M M0 → WM M0 a L0 → L0.length + 8 * n + 17 ≤ 2400 → L0 = L ++ (if k ≤ 0 then [] else [44]) → ∃ M', fX9_writeStacks_54 g k12 (fX9_writeStacks_34 g k12 fu) a s k M0 = fX9_writeStacks_154 g k12 a s M' ∧ WM M' a (L ++ (((if k ≤ 0 then [] else [44]) ++ qNL r s (n + 1) k) ++ (if rs r s 2 = -1 then 35 :: qNm1 (rs r s 3) else 64 :: qNameL r (rs r s 2) 8 0))) ∧ gFW a (a + 8) 19 M M' := by
      intro M0 L0 F0 W0 hl0 hL0
      have hr0 : M0 (a + 1) = r := by rw [F0.1 (a + 1) (by omega) (by omega)]; exact hr
      have hl1 := qNm1_len (v := rs r s (5 + k))
      obtain ⟨M1, e1, W1, F1⟩ := m_wnum (g := g) (v := rs r s (5 + k)) (hn k h0 (by omega)) W0 (by omega)
      have hr1 : M1 (a + 1) = r := by rw [F1.1 (a + 1) (by omega) (by omega)]; exact hr0
      obtain ⟨M2, e2, W2, F2⟩ := ih (k + 1) M1 _ fu hr1 (by omega) (by omega) W1 (by simp only [List.length_append]; omega) (by omega)
      unfold fX9_writeStacks_54
      rw [gwi_eq (x := 5 + k) (by omega) (by omega), m_ofSR hr0 hs12 (by omega), Option.bind_some, e1, Option.bind_some, gst_eq, gwi_eq (by omega) (by omega)]
      refine ⟨M2, e2, ?_, (F0.trans F1).trans F2⟩
      rw [hL0, if_neg (show ¬ k + 1 ≤ 0 by omega)] at W2
      have e : L ++ (((if k ≤ 0 then [] else [44]) ++ qNL r s (n + 1) k) ++ (if rs r s 2 = -1 then 35 :: qNm1 (rs r s 3) else 64 :: qNameL r (rs r s 2) 8 0)) = L ++ (if k ≤ 0 then [] else [44]) ++ qNm1 (rs r s (5 + k)) ++ ((if n = 0 then [] else [44] ++ qNL r s n (k + 1)) ++ (if rs r s 2 = -1 then 35 :: qNm1 (rs r s 3) else 64 :: qNameL r (rs r s 2) 8 0)) := by
        show L ++ (((if k ≤ 0 then [] else [44]) ++ (qNm1 (rs r s (5 + k)) ++ (if n = 0 then [] else 44 :: qNL r s n (k + 1)))) ++ _) = _
        simp only [List.append_assoc, List.cons_append, List.nil_append]
      rw [e]
      exact W2
    unfold fX9_writeStacks_34
    rw [m_ofSR hr hs12 (by omega), Option.bind_some, if_neg (by omega), if_neg (show ¬ n + 1 = 0 by omega)]
    by_cases hz : k ≤ 0
    · rw [if_pos hz]
      exact rest M L gFW.rfl' hW (by omega) (by rw [if_pos hz, List.append_nil])
    · obtain ⟨M1, e1, W1, F1⟩ := m_writes (g := g) (c := 44) hW (by omega)
      rw [if_neg hz, e1, Option.bind_some]
      exact rest M1 _ F1 W1 (by simp only [List.length_append, List.length_cons, List.length_nil]; omega) (by rw [if_neg hz])
theorem m_pile_lp (hO : qOK r K) : ∀ (n : Nat) (s : Int) (M : gMem) (L : List Int) (fu : Nat), M (a + 1) = r → 0 ≤ s → s + n = r 2 → WM M a L → L.length + 150 * n ≤ 2400 → n < fu → ∃ M', fX9_writeStacks_12 g fu a s M = some (((L ++ qTextL r n s).length : Int), M') ∧ WM M' a (L ++ qTextL r n s) ∧ gFW a (a + 8) 19 M M' := by
  have h1 := hO.2.1
  have h2 := hO.2.2.1
  have h0b := hO.1
  intro n
  induction n with
  | zero =>
    intro s M L fu hr h0 hs hW hl hf
    obtain ⟨fu, rfl⟩ := fuS hf
    unfold fX9_writeStacks_12 qTextL
    rw [hr, tn2, if_pos (by omega), if_pos (by omega), List.append_nil, hW.1]
    exact ⟨M, rfl, hW, gFW.rfl'⟩
  | succ n ih =>
    intro s M L fu hr h0 hs hW hl hf
    obtain ⟨fu, rfl⟩ := fuS hf
    have hs2 : 0 ≤ s ∧ s < r 2 := by omega
    have hOs := hO.2.2.2.2.2.2.2 s hs2.1 hs2.2
    have hlen := hO.len hs2.1 hs2.2
    have hh := hOs.2.2.1
    have hk := hOs.2.2.2.1
    have body : ∀ (M0 : gMem) (L0 : List Int), gFW a (a + 8) 19 M M0 → WM M0 a L0 → L0.length + 150 * n + 149 ≤ 2400 → L0 = L ++ (if s ≤ 0 then [] else [32]) → ∃ M', fX9_writeStacks_32 g (fX9_writeStacks_12 g fu) a s M0 = some (((L ++ (qPileL r s ++ qTextL r n (s + 1))).length : Int), M') ∧ WM M' a (L ++ (qPileL r s ++ qTextL r n (s + 1))) ∧ gFW a (a + 8) 19 M M' := by
      intro M0 L0 F0 W0 hl0 hL0
      have hr0 : M0 (a + 1) = r := by rw [F0.1 (a + 1) (by omega) (by omega)]; exact hr
      have hpl := qPileL_len (r := r) (s := s) hlen.2
      obtain ⟨M1, e1, W1, F1⟩ := m_nums_lp (g := g) (k12 := fX9_writeStacks_12 g fu) (s := s) (by omega) hlen hOs.2.2.2.2.2.2.1 (by omega) (by omega) (rs r s 1).toNat 0 M0 L0 gF hr0 (by omega) (by omega) W0 (by omega) (by unfold gF; omega)
      have eL : L0 ++ ((if (rs r s 1).toNat = 0 then [] else (if (0 : Int) ≤ 0 then [] else [44]) ++ qNL r s (rs r s 1).toNat 0) ++ (if rs r s 2 = -1 then 35 :: qNm1 (rs r s 3) else 64 :: qNameL r (rs r s 2) 8 0)) = L ++ qPileL r s := by
        have e0 : (if (rs r s 1).toNat = 0 then [] else (if (0 : Int) ≤ 0 then [] else [44]) ++ qNL r s (rs r s 1).toNat 0) = qNL r s (rs r s 1).toNat 0 := by
          by_cases c : (rs r s 1).toNat = 0
          · rw [if_pos c, c]; rfl
          · rw [if_neg c, if_pos (Int.le_refl 0), List.nil_append]
        rw [e0, hL0]
        unfold qPileL
        simp only [List.append_assoc]
      rw [eL] at W1
      have hr1 : M1 (a + 1) = r := by rw [F1.1 (a + 1) (by omega) (by omega)]; exact hr0
      have hlL : L.length ≤ L0.length := by rw [hL0]; simp
      obtain ⟨M2, e2, W2, F2⟩ := ih (s + 1) M1 (L ++ qPileL r s) fu hr1 (by omega) (by omega) W1 (by simp only [List.length_append]; omega) (by omega)
      rw [List.append_assoc] at e2 W2
      unfold fX9_writeStacks_32
      rw [e1]
      unfold fX9_writeStacks_154
      rw [gst_eq, gwi_eq (by omega) (by omega)]
      exact ⟨M2, e2, W2, (F0.trans F1).trans F2⟩
    unfold fX9_writeStacks_12 qTextL
    rw [hr, tn2, if_pos (by omega), if_neg (by omega)]
    by_cases hz : s ≤ 0
    · rw [if_pos hz]
      exact body M L gFW.rfl' hW (by omega) (by rw [if_pos hz, List.append_nil])
    · obtain ⟨M1, e1, W1, F1⟩ := m_writes (g := g) (c := 32) hW (by omega)
      rw [if_neg hz, e1, Option.bind_some]
      exact body M1 _ F1 W1 (by simp only [List.length_append, List.length_cons, List.length_nil]; omega) (by rw [if_neg hz])
theorem b_write (hO : qOK r K) (hr : M (a + 1) = r) : ∃ N, fX9_writeStacks g a M = some (((sWrite r).length : Int), N) ∧ WM N a (sWrite r) ∧ N a 7 = 0 ∧ (∀ y : Nat, ¬ y = a → ¬ y = a + 8 → N y = M y) ∧ ∀ j : Nat, ¬ j = 7 → ¬ j = 19 → N a j = M a j := by
  have h2 := hO.2.2.1
  have W0 : WM (gup (gup M a 7 0) a 19 0) a [] := ⟨gup_hit rfl rfl, fun i hi => by cases hi⟩
  obtain ⟨N, e, W, F⟩ := m_pile_lp (g := g) (a := a) hO (r 2).toNat 0 (gup (gup M a 7 0) a 19 0) [] gF (by rw [gup_row (by omega), gup_row (by omega)]; exact hr) (by omega) (by omega) W0 (by simp only [List.length_nil]; omega) (by unfold gF; omega)
  unfold fX9_writeStacks sWrite
  simp only [gst_eq]
  rw [List.nil_append] at e W
  exact ⟨N, e, W, by rw [F.2 7 (by omega), gup_miss (by omega)]; exact gup_hit rfl rfl, fun y q1 q2 => by rw [F.1 y q1 q2, gup_row q1, gup_row q1], fun j q1 q2 => by rw [F.2 j q2, gup_miss (fun z => q2 z.2), gup_miss (fun z => q1 z.2)]⟩
theorem b_byte {x : Int} (hW : WM M a L) (hl : L.length ≤ 2000) : fX9_writtenByte g a x M = some (qWert (sByte L x), gup M a 7 (qThr 3 (sByte L x))) := by
  unfold fX9_writtenByte fX9_writtenByte_20 sByte
  rw [hW.1, gwi_eq (by omega) (by omega), m_isIn, Option.bind_some]
  simp only [gst_eq]
  by_cases h : 0 ≤ x ∧ x < (L.length : Int)
  · rw [if_neg (by rw [qB_t (show 0 ≤ x ∧ x ≤ (L.length : Int) - 1 by omega)]; omega), gup_hit rfl rfl, if_pos (Int.le_refl 0), if_pos (by omega), if_pos h, gup_row (by omega), hW.2 x.toNat (by omega)]
    rfl
  · rw [if_pos (qB_f (show ¬ (0 ≤ x ∧ x ≤ (L.length : Int) - 1) by omega)), gup_hit rfl rfl, if_neg (by omega), if_neg h]
    rfl
end Write2
