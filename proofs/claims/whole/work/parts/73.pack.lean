/-! PURE: letters packed into a long -/
theorem gj_nat {w : Int} (h : 0 ≤ w ∧ w < 9223372036854775808) : (gj w).toBitVec.toNat = w.toNat := by
  show (BitVec.ofInt 64 w).toNat = _
  rw [BitVec.toNat_ofInt]
  have : ((2 ^ 64 : Nat) : Int) = 18446744073709551616 := rfl
  rw [this]
  omega
theorem gj_of_nat {x : Int64} {m : Nat} (h : x.toBitVec.toNat = m) (hm : m < 9223372036854775808) : x.toInt = (m : Int) := by
  show x.toBitVec.toInt = _
  rw [BitVec.toInt_eq_toNat_of_lt (by omega), h]
theorem glshl8 {w : Int} (hw : 0 ≤ w ∧ w < 36028797018963968) : (gj (glshl w 8)).toBitVec.toNat = w.toNat * 256 := by
  have e8 : ((gi 8).toInt64 &&& 63) = 8 := by decide
  unfold glshl
  rw [gj_of, e8, Int64.toBitVec_shiftLeft]
  have hs : ((8 : Int64).toBitVec.smod 64) = BitVec.ofNat 64 8 := by decide
  have hk : (BitVec.ofNat 64 8).toNat = 8 := by decide
  rw [hs]
  have h : ((gj w).toBitVec <<< BitVec.ofNat 64 8).toNat = (w.toNat * 2 ^ 8) % 2 ^ 64 := by simp only [BitVec.shiftLeft_eq', BitVec.toNat_shiftLeft, gj_nat (w := w) (by omega), hk, Nat.shiftLeft_eq]
  rw [h]
  omega
theorem gpk8 {w c : Int} (hw : 0 ≤ w ∧ w < 36028797018963968) (hc : 0 ≤ c ∧ c ≤ 255) : glor (glshl w 8) c = w * 256 + c := by
  unfold glor
  have h : (gj (glshl w 8) ||| gj c).toBitVec.toNat = w.toNat * 256 + c.toNat := by
    rw [Int64.toBitVec_or, BitVec.toNat_or, glshl8 hw, gj_nat (by omega)]
    have := Nat.shiftLeft_add_eq_or_of_lt (b := c.toNat) (i := 8) (show c.toNat < 2 ^ 8 by omega) w.toNat
    rw [Nat.shiftLeft_eq] at this
    exact this.symm
  rw [gj_of_nat h (by omega)]
  omega
def qBytes (f : Int → Int) (n : Nat) : Prop := ∀ k : Int, 0 ≤ k → k < n → 1 ≤ f k ∧ f k ≤ 127
theorem qPack_rng {f : Int → Int} : ∀ n : Nat, qBytes f n → 0 ≤ qPack f n ∧ qPack f n < 256 ^ n ∧ 2 * qPack f n < 256 ^ n := by
  intro n
  induction n with
  | zero => intro _; exact ⟨Int.le_refl 0, by unfold qPack; decide, by unfold qPack; decide⟩
  | succ n ih =>
    intro h
    obtain ⟨h1, h2, h3⟩ := ih (fun k q1 q2 => h k q1 (by omega))
    have h4 := h n (by omega) (by omega)
    have e : (256 : Int) ^ (n + 1) = 256 ^ n * 256 := Int.pow_succ 256 n
    unfold qPack
    rw [e]
    refine ⟨by omega, by omega, ?_⟩
    omega
theorem qPack_small {f : Int → Int} {n : Nat} (h : qBytes f n) (hn : n ≤ 7) : 0 ≤ qPack f n ∧ qPack f n < 36028797018963968 := by
  obtain ⟨h1, h2, h3⟩ := qPack_rng n h
  have hn' : n = 0 ∨ n = 1 ∨ n = 2 ∨ n = 3 ∨ n = 4 ∨ n = 5 ∨ n = 6 ∨ n = 7 := by omega
  refine ⟨h1, ?_⟩
  rcases hn' with rfl | rfl | rfl | rfl | rfl | rfl | rfl | rfl <;> omega
theorem qPack_long {f : Int → Int} {n : Nat} (h : qBytes f n) (hn : n ≤ 8) : 0 ≤ qPack f n ∧ qPack f n < 9223372036854775808 := by
  obtain ⟨h1, h2, h3⟩ := qPack_rng n h
  have hn' : n = 0 ∨ n = 1 ∨ n = 2 ∨ n = 3 ∨ n = 4 ∨ n = 5 ∨ n = 6 ∨ n = 7 ∨ n = 8 := by omega
  refine ⟨h1, ?_⟩
  rcases hn' with rfl | rfl | rfl | rfl | rfl | rfl | rfl | rfl | rfl <;> omega
theorem qPack_inj {f h : Int → Int} : ∀ n m : Nat, qBytes f n → qBytes h m → qPack f n = qPack h m → n = m ∧ ∀ k : Int, 0 ≤ k → k < n → f k = h k := by
  intro n
  induction n with
  | zero =>
    intro m hf hh he
    cases m with
    | zero => exact ⟨rfl, fun k q1 q2 => by omega⟩
    | succ m =>
      exfalso
      have h1 := (qPack_rng m (fun k q1 q2 => hh k q1 (by omega))).1
      have h2 := hh m (by omega) (by omega)
      unfold qPack at he
      omega
  | succ n ih =>
    intro m hf hh he
    have f1 := (qPack_rng n (fun k q1 q2 => hf k q1 (by omega))).1
    have f2 := hf n (by omega) (by omega)
    cases m with
    | zero =>
      exfalso
      unfold qPack at he
      omega
    | succ m =>
      have h1 := (qPack_rng m (fun k q1 q2 => hh k q1 (by omega))).1
      have h2 := hh m (by omega) (by omega)
      have he' : qPack f n * 256 + f n = qPack h m * 256 + h m := he
      obtain ⟨e1, e2⟩ := ih m (fun k q1 q2 => hf k q1 (by omega)) (fun k q1 q2 => hh k q1 (by omega)) (by omega)
      subst e1
      refine ⟨rfl, fun k q1 q2 => ?_⟩
      by_cases ek : k = n
      · rw [ek]; omega
      · exact e2 k q1 (by omega)
theorem qPack_congr {f h : Int → Int} : ∀ n : Nat, (∀ k : Int, 0 ≤ k → k < n → f k = h k) → qPack f n = qPack h n := by
  intro n
  induction n with
  | zero => intro _; rfl
  | succ n ih => intro e; unfold qPack; rw [ih (fun k q1 q2 => e k q1 (by omega)), e n (by omega) (by omega)]
theorem qPack_pos {f : Int → Int} {n : Nat} (h : qBytes f n) (hn : 1 ≤ n) : qPack f n ≠ 0 := by
  intro he
  have := (qPack_inj (h := f) n 0 h (fun k q1 q2 => by omega) he).1
  omega
theorem gand_gwb {v : Int} (hv : 0 ≤ v ∧ v ≤ 255) : gand (gwb v) 255 = v := by
  have : ∀ v : Fin 256, gand (gwb (v.val : Int)) 255 = (v.val : Int) := by decide +kernel
  have h := this ⟨v.toNat, by omega⟩
  simp only at h
  rwa [show ((v.toNat : Nat) : Int) = v by omega] at h
/-! the letters of a text constant -/
section Letters
variable {g : Nat → Nat}
def gtl (t : Nat) : Int → Int := fun k => (gtx t).getD k.toNat 0
theorem c_letters_lp {t : Nat} (hl : (gtx t).length ≤ 7) (hb : qBytes (gtl t) (gtx t).length) : ∀ (n : Nat) (i : Nat) (fu : Nat), i + n = (gtx t).length → n < fu → fX5_lettersOf_4 g fu t (qPack (gtl t) i) (i : Int) = some (qPack (gtl t) (gtx t).length) := by
  intro n
  induction n with
  | zero =>
    intro i fu hs hf
    obtain ⟨fu, rfl⟩ := fuS hf
    unfold fX5_lettersOf_4
    rw [if_pos (by omega), show i = (gtx t).length by omega]
  | succ n ih =>
    intro i fu hs hf
    obtain ⟨fu, rfl⟩ := fuS hf
    have hbi := hb i (by omega) (by omega)
    have hs0 := qPack_small (f := gtl t) (n := i) (fun k q1 q2 => hb k q1 (by omega)) (by omega)
    unfold fX5_lettersOf_4
    rw [if_neg (by omega), if_pos (by omega), gst_eq, gst_eq, gwi_eq (by omega) (by omega)]
    show fX5_lettersOf_4 g fu t (glor (glshl (qPack (gtl t) i) 8) (gtl t i)) _ = _
    rw [gpk8 hs0 (by omega)]
    exact ih (i + 1) fu (by omega) (by omega)
theorem gtx_by {t : Nat} (ht : t ≤ 20) : (1 ≤ (gtx t).length ∧ (gtx t).length ≤ 7) ∧ qBytes (gtl t) (gtx t).length := by
  have h : ∀ t : Fin 21, (1 ≤ (gtx t.val).length ∧ (gtx t.val).length ≤ 7) ∧ ∀ k : Fin 7, k.val < (gtx t.val).length → 1 ≤ (gtx t.val).getD k.val 0 ∧ (gtx t.val).getD k.val 0 ≤ 127 := by decide +kernel
  obtain ⟨h1, h2⟩ := h ⟨t, by omega⟩
  simp only at h1 h2
  refine ⟨h1, fun k q1 q2 => ?_⟩
  exact h2 ⟨k.toNat, by omega⟩ (by simp only; omega)
theorem c_letters {t : Nat} (ht : t ≤ 20) : fX5_lettersOf g t = some (qPack (gtl t) (gtx t).length) := by
  obtain ⟨h1, h2⟩ := gtx_by ht
  unfold fX5_lettersOf
  exact c_letters_lp h1.2 h2 (gtx t).length 0 gF (by omega) (by unfold gF; omega)
end Letters
