/-! PURE: numbers that are no NaN; waitShare and fullness -/
/-- no NaN, and fields that fit -/
def fpO32 : FP.Core.Datum → Prop
  | .nan => False
  | .inf _ => True
  | .fin _ c q => c < 16777216 ∧ q ≤ 104
def fpO64 : FP.Core.Datum → Prop
  | .nan => False
  | .inf _ => True
  | .fin _ c q => c < 9007199254740992 ∧ q ≤ 971
def fpN32 (x : UInt32) : Prop := x &&& 0x7fffffff ≤ 0x7f800000
def fpN64 (x : UInt64) : Prop := x &&& 0x7fffffffffffffff ≤ 0x7ff0000000000000
theorem fp_e32 {s : Bool} {c : Nat} {q : Int} (hc : c < 16777216) (hq : q ≤ 104) : FP.Core.encode FP.Core.b32 (.fin s c q) < 4294967296 ∧ FP.Core.encode FP.Core.b32 (.fin s c q) % 2147483648 < 2139095040 := by
  have ht : FP.Core.b32.tails = 8388608 := by decide
  have hx : FP.Core.b32.exps = 256 := by decide
  have hm : FP.Core.b32.qmin = -149 := by decide
  simp only [FP.Core.encode, FP.Core.assemble, ht, hx, hm]
  cases s <;> split <;> simp only [Bool.toNat_true, Bool.toNat_false] <;> omega
theorem fp_i32 {s : Bool} : FP.Core.encode FP.Core.b32 (.inf s) < 4294967296 ∧ FP.Core.encode FP.Core.b32 (.inf s) % 2147483648 ≤ 2139095040 := by
  cases s <;> exact ⟨by decide, by decide⟩
theorem fp_e64 {s : Bool} {c : Nat} {q : Int} (hc : c < 9007199254740992) (hq : q ≤ 971) : FP.Core.encode FP.Core.b64 (.fin s c q) < 18446744073709551616 ∧ FP.Core.encode FP.Core.b64 (.fin s c q) % 9223372036854775808 < 9218868437227405312 ∧ (c ≠ 0 → FP.Core.encode FP.Core.b64 (.fin s c q) % 9223372036854775808 ≠ 0) := by
  have ht : FP.Core.b64.tails = 4503599627370496 := by decide
  have hx : FP.Core.b64.exps = 2048 := by decide
  have hm : FP.Core.b64.qmin = -1074 := by decide
  simp only [FP.Core.encode, FP.Core.assemble, ht, hx, hm]
  cases s <;> split <;> simp only [Bool.toNat_true, Bool.toNat_false] <;> omega
theorem fp_i64 {s : Bool} : FP.Core.encode FP.Core.b64 (.inf s) < 18446744073709551616 ∧ FP.Core.encode FP.Core.b64 (.inf s) % 9223372036854775808 ≤ 9218868437227405312 := by
  cases s <;> exact ⟨by decide, by decide⟩
theorem fp_n32 {x : UInt32} : fpN32 x ↔ x.toNat % 2147483648 ≤ 2139095040 := by
  unfold fpN32
  rw [UInt32.le_iff_toNat_le, UInt32.toNat_and]
  have : (0x7fffffff : UInt32).toNat = 2 ^ 31 - 1 := by decide
  rw [this, Nat.and_two_pow_sub_one_eq_mod]
  exact Iff.rfl
theorem fp_n64 {x : UInt64} : fpN64 x ↔ x.toNat % 9223372036854775808 ≤ 9218868437227405312 := by
  unfold fpN64
  rw [UInt64.le_iff_toNat_le, UInt64.toNat_and]
  have : (0x7fffffffffffffff : UInt64).toNat = 2 ^ 63 - 1 := by decide
  rw [this, Nat.and_two_pow_sub_one_eq_mod]
  exact Iff.rfl
theorem fp_b32 {d : FP.Core.Datum} (h : fpO32 d) : fpN32 (UInt32.ofNat (FP.Core.encode FP.Core.b32 d)) := by
  rw [fp_n32]
  cases d with
  | nan => exact h.elim
  | inf s =>
    obtain ⟨h1, h2⟩ := fp_i32 (s := s)
    rw [UInt32.toNat_ofNat_of_lt' (by simpa using h1)]; exact h2
  | fin s c q =>
    obtain ⟨h1, h2⟩ := fp_e32 (s := s) h.1 h.2
    rw [UInt32.toNat_ofNat_of_lt' (by simpa using h1)]; omega
theorem fp_b64 {d : FP.Core.Datum} (h : fpO64 d) : fpN64 (UInt64.ofNat (FP.Core.encode FP.Core.b64 d)) := by
  rw [fp_n64]
  cases d with
  | nan => exact h.elim
  | inf s =>
    obtain ⟨h1, h2⟩ := fp_i64 (s := s)
    rw [UInt64.toNat_ofNat_of_lt' (by simpa using h1)]; exact h2
  | fin s c q =>
    obtain ⟨h1, h2, -⟩ := fp_e64 (s := s) h.1 h.2
    rw [UInt64.toNat_ofNat_of_lt' (by simpa using h1)]; omega
theorem fp_r32 {s : Bool} {num den : Nat} {e : Int} : fpO32 (FP.Core.roundRatio FP.Core.b32 s num den e) := by
  have hx : FP.Core.b32.qmax = 104 := by decide
  have hm : FP.Core.b32.qmin = -149 := by decide
  have ht : FP.Core.b32.tails = 8388608 := by decide
  have hp : (2 : Nat) ^ FP.Core.b32.p = 16777216 := by decide
  unfold FP.Core.roundRatio FP.Core.roundAt FP.Core.settle FP.Core.bound
  rw [hx, hm, ht, hp]
  split
  · exact ⟨by decide, by decide⟩
  · split
    · rename_i h
      split
      · rename_i h2; exact ⟨h, h2⟩
      · exact trivial
    · split
      · rename_i h2; exact ⟨by decide, h2⟩
      · exact trivial
theorem fp_r64 {s : Bool} {num den : Nat} {e : Int} : fpO64 (FP.Core.roundRatio FP.Core.b64 s num den e) := by
  have hx : FP.Core.b64.qmax = 971 := by decide
  have hm : FP.Core.b64.qmin = -1074 := by decide
  have ht : FP.Core.b64.tails = 4503599627370496 := by decide
  have hp : (2 : Nat) ^ FP.Core.b64.p = 9007199254740992 := by decide
  unfold FP.Core.roundRatio FP.Core.roundAt FP.Core.settle FP.Core.bound
  rw [hx, hm, ht, hp]
  split
  · exact ⟨by decide, by decide⟩
  · split
    · rename_i h
      split
      · rename_i h2; exact ⟨h, h2⟩
      · exact trivial
    · split
      · rename_i h2; exact ⟨by decide, h2⟩
      · exact trivial
theorem fp_d32 {x : UInt32} (h : fpN32 x) : FP.Core.decode FP.Core.b32 x.toNat ≠ .nan := by
  rw [fp_n32] at h
  have ht : FP.Core.b32.tails = 8388608 := by decide
  have hx : FP.Core.b32.exps = 256 := by decide
  unfold FP.Core.decode FP.Core.fieldE FP.Core.fieldT
  rw [ht, hx]
  split
  · rw [if_pos (by omega)]; exact fun z => by cases z
  · split <;> exact fun z => by cases z
theorem fp_d64 {x : UInt64} (h : fpN64 x) : FP.Core.decode FP.Core.b64 x.toNat ≠ .nan := by
  rw [fp_n64] at h
  have ht : FP.Core.b64.tails = 4503599627370496 := by decide
  have hx : FP.Core.b64.exps = 2048 := by decide
  unfold FP.Core.decode FP.Core.fieldE FP.Core.fieldT
  rw [ht, hx]
  split
  · rw [if_pos (by omega)]; exact fun z => by cases z
  · split <;> exact fun z => by cases z
/-- finite, and not 0 -/
theorem fp_z64 {x : UInt64} (h : x.toNat % 9223372036854775808 < 9218868437227405312) (h0 : x.toNat % 9223372036854775808 ≠ 0) : ∃ s c q, FP.Core.decode FP.Core.b64 x.toNat = .fin s c q ∧ c ≠ 0 := by
  have ht : FP.Core.b64.tails = 4503599627370496 := by decide
  have hx : FP.Core.b64.exps = 2048 := by decide
  unfold FP.Core.decode FP.Core.fieldE FP.Core.fieldT
  rw [ht, hx, if_neg (by omega)]
  split
  · exact ⟨_, _, _, rfl, by omega⟩
  · exact ⟨_, _, _, rfl, by omega⟩
theorem fp_int64 (v : Int32) : fpN64 (FP.i2d v) := by
  show fpN64 (UInt64.ofNat (FP.Core.encode FP.Core.b64 (FP.Core.round FP.Core.b64 (FP.Core.ofInt v.toInt))))
  exact fp_b64 fp_r64
theorem fp_near {n : Nat} : FP.Core.nearest n 1 = n := by
  unfold FP.Core.nearest
  rw [if_pos (by omega)]
  omega
theorem fp_pos64 {v : Int32} (h0 : 0 < v.toInt) : ∃ s c q, FP.Core.decode FP.Core.b64 (FP.i2d v).toNat = .fin s c q ∧ c ≠ 0 := by
  have hlt := v.toInt_lt
  generalize hi : v.toInt.natAbs = i
  have hi0 : i ≠ 0 := by omega
  have hi1 : i < 2 ^ 53 := by omega
  have hl : i.log2 < 53 := (Nat.log2_lt hi0).mpr hi1
  have hlead : FP.Core.leading i 1 ≤ 52 := by
    unfold FP.Core.leading
    have : (1 : Nat).log2 = 0 := by decide
    rw [this]
    simp only
    split <;> omega
  have hm : FP.Core.b64.qmin = -1074 := by decide
  have hp : FP.Core.b64.p = 53 := by decide
  have hq : FP.Core.quantum FP.Core.b64 i 1 0 ≤ 0 := by
    unfold FP.Core.quantum
    rw [hm, hp]
    omega
  have hx : FP.Core.b64.qmax = 971 := by decide
  have ht : FP.Core.b64.tails = 4503599627370496 := by decide
  have hpp : (2 : Nat) ^ FP.Core.b64.p = 9007199254740992 := by decide
  obtain ⟨s, c, q, e, hc0, hc, hqq⟩ : ∃ s c q, FP.Core.roundRatio FP.Core.b64 (decide (v.toInt < 0)) i 1 0 = .fin s c q ∧ c ≠ 0 ∧ c < 9007199254740992 ∧ q ≤ 971 := by
    unfold FP.Core.roundRatio FP.Core.roundAt FP.Core.settle FP.Core.bound
    generalize FP.Core.quantum FP.Core.b64 i 1 0 = q at hq
    have hd : FP.Core.unitsDen 1 0 q = 1 := by
      unfold FP.Core.unitsDen
      have : (q - 0).toNat = 0 := by omega
      rw [this]
    have hn : FP.Core.unitsNum i 0 q ≠ 0 := by
      unfold FP.Core.unitsNum
      have : 0 < 2 ^ (0 - q).toNat := Nat.two_pow_pos _
      exact Nat.mul_ne_zero hi0 (by omega)
    rw [if_neg hi0, hd, fp_near, hx, ht, hpp, if_pos (show q ≤ 971 by omega), if_pos (show q + 1 ≤ 971 by omega)]
    split
    · rename_i h; exact ⟨_, _, _, rfl, hn, h, by omega⟩
    · exact ⟨_, _, _, rfl, by decide, by decide, by omega⟩
  have er : FP.Core.round FP.Core.b64 (FP.Core.ofInt v.toInt) = .fin s c q := by
    show FP.Core.roundRatio FP.Core.b64 (decide (v.toInt < 0)) v.toInt.natAbs 1 0 = _
    rw [hi]; exact e
  obtain ⟨b1, b2, b3⟩ := fp_e64 (s := s) hc hqq
  have eb : (FP.i2d v).toNat = FP.Core.encode FP.Core.b64 (.fin s c q) := by
    show (UInt64.ofNat (FP.Core.encode FP.Core.b64 (FP.Core.round FP.Core.b64 (FP.Core.ofInt v.toInt)))).toNat = _
    rw [er, UInt64.toNat_ofNat_of_lt' (by simpa using b1)]
  exact fp_z64 (by rw [eb]; exact b2) (by rw [eb]; exact b3 hc0)
theorem fp_ddiv {x y : UInt64} (hx : fpN64 x) (hy : ∃ s c q, FP.Core.decode FP.Core.b64 y.toNat = .fin s c q ∧ c ≠ 0) : fpN64 (FP.ddiv x y) := by
  obtain ⟨t, d, r, e, hd⟩ := hy
  have hn := fp_d64 hx
  show fpN64 (UInt64.ofNat (FP.Core.encode FP.Core.b64 (FP.Core.quotient FP.Core.b64 (FP.Core.decode FP.Core.b64 x.toNat) (FP.Core.decode FP.Core.b64 y.toNat))))
  rw [e]
  refine fp_b64 ?_
  generalize FP.Core.decode FP.Core.b64 x.toNat = z at hn
  cases z with
  | nan => exact absurd rfl hn
  | inf s => exact trivial
  | fin s c q =>
    simp only [FP.Core.quotient]
    rw [if_neg hd]
    exact fp_r64
theorem fp_fdiv {x y : UInt32} (hx : fpN32 x) (hy : ∃ s c q, FP.Core.decode FP.Core.b32 y.toNat = .fin s c q ∧ c ≠ 0) : fpN32 (FP.fdiv x y) := by
  obtain ⟨t, d, r, e, hd⟩ := hy
  have hn := fp_d32 hx
  show fpN32 (UInt32.ofNat (FP.Core.encode FP.Core.b32 (FP.Core.quotient FP.Core.b32 (FP.Core.decode FP.Core.b32 x.toNat) (FP.Core.decode FP.Core.b32 y.toNat))))
  rw [e]
  refine fp_b32 ?_
  generalize FP.Core.decode FP.Core.b32 x.toNat = z at hn
  cases z with
  | nan => exact absurd rfl hn
  | inf s => exact trivial
  | fin s c q =>
    simp only [FP.Core.quotient]
    rw [if_neg hd]
    exact fp_r32
theorem fp_fadd {x y : UInt32} (hx : fpN32 x) (hy : ∃ s c q, FP.Core.decode FP.Core.b32 y.toNat = .fin s c q) : fpN32 (FP.fadd x y) := by
  obtain ⟨t, d, r, e⟩ := hy
  have hn := fp_d32 hx
  show fpN32 (UInt32.ofNat (FP.Core.encode FP.Core.b32 (FP.Core.round FP.Core.b32 (FP.Core.exactSum (FP.Core.decode FP.Core.b32 x.toNat) (FP.Core.decode FP.Core.b32 y.toNat)))))
  rw [e]
  refine fp_b32 ?_
  generalize FP.Core.decode FP.Core.b32 x.toNat = z at hn
  cases z with
  | nan => exact absurd rfl hn
  | inf s => exact trivial
  | fin s c q => exact fp_r32
def fpF (x : UInt32) : Bool := match FP.Core.decode FP.Core.b32 x.toNat with
  | .fin _ _ _ => true
  | _ => false
def fpG (x : UInt32) : Bool := match FP.Core.decode FP.Core.b32 x.toNat with
  | .fin _ c _ => c != 0
  | _ => false
theorem fp_pair : ∀ i : Fin 17, ∀ j : Fin 16, (fpF (FP.fdiv (FP.i2f (gi (i.val : Int))) (FP.i2f (gi ((j.val + 1 : Nat) : Int)))) && fpG (FP.i2f (gi ((j.val + 1 : Nat) : Int)))) = true := by decide +kernel
theorem fpF_s {x : UInt32} (h : fpF x = true) : ∃ s c q, FP.Core.decode FP.Core.b32 x.toNat = .fin s c q := by
  unfold fpF at h
  split at h
  · rename_i e; exact ⟨_, _, _, e⟩
  · cases h
theorem fpG_s {x : UInt32} (h : fpG x = true) : ∃ s c q, FP.Core.decode FP.Core.b32 x.toNat = .fin s c q ∧ c ≠ 0 := by
  unfold fpG at h
  split at h
  · rename_i e; exact ⟨_, _, _, e, by simpa using h⟩
  · cases h
theorem fp_fin {x : UInt32} (h : fpF x = true) : fpN32 x := by
  obtain ⟨s, c, q, e⟩ := fpF_s h
  rw [fp_n32]
  have ht : FP.Core.b32.tails = 8388608 := by decide
  have hx : FP.Core.b32.exps = 256 := by decide
  unfold FP.Core.decode FP.Core.fieldE FP.Core.fieldT at e
  rw [ht, hx] at e
  split at e
  · split at e <;> cases e
  · omega
theorem fp_part {i j : Int} (hi : 0 ≤ i ∧ i ≤ 16) (hj : 1 ≤ j ∧ j ≤ 16) : fpF (FP.fdiv (FP.i2f (gi i)) (FP.i2f (gi j))) = true ∧ fpG (FP.i2f (gi j)) = true := by
  have h := fp_pair ⟨i.toNat, by omega⟩ ⟨(j - 1).toNat, by omega⟩
  have e1 : ((i.toNat : Nat) : Int) = i := by omega
  have e2 : ((((j - 1).toNat + 1 : Nat)) : Int) = j := by omega
  simp only [Bool.and_eq_true] at h
  rw [e1, e2] at h
  exact h
def sShare (r : gRow) : UInt64 := if qSumOf r 8 + qSumOf r 7 = 0 then FP.dconst0 else FP.ddiv (FP.i2d (gi (qSumOf r 8))) (FP.i2d (gi (qSumOf r 8 + qSumOf r 7)))
def qFullN (r : gRow) : Nat → Int → UInt32 → UInt32
  | 0, _, x => x
  | n + 1, s, x => qFullN r n (s + 1) (FP.fadd x (FP.fdiv (FP.i2f (gi (rs r s 1))) (FP.i2f (gi (rs r s 0)))))
def sFull (r : gRow) : UInt32 := if r 2 = 0 then FP.fconst0 else FP.fdiv (qFullN r (r 2).toNat 0 FP.fconst0) (FP.i2f (gi (r 2)))
section Flo
variable {M M' : gMem} {d a : Nat} {r : gRow} {K K' n : Int} {g : Nat → Nat}
theorem qSum_rng {f : Int → Int} {B : Int} (hB : 0 ≤ B) : ∀ (n : Nat) (p : Int), (∀ q : Int, p ≤ q → q < p + n → 0 ≤ f q ∧ f q ≤ B) → 0 ≤ qSum f n p ∧ qSum f n p ≤ n * B := by
  intro n
  induction n with
  | zero => intro p h; exact ⟨Int.le_refl 0, by unfold qSum; omega⟩
  | succ n ih =>
    intro p h
    have h0 := h p (by omega) (by omega)
    have h1 := ih (p + 1) (fun q q1 q2 => h q (by omega) (by omega))
    have e : ((n + 1 : Nat) : Int) * B = n * B + B := by rw [Int.natCast_add, Int.add_mul]; omega
    unfold qSum
    omega
theorem sum_rng (hO : qOK r K) (hK : 0 ≤ K ∧ K ≤ 100000000) {k : Int} (hk : k = 7 ∨ k = 8) : 0 ≤ qSumOf r k ∧ qSumOf r k ≤ 800000000 := by
  have h1 := hO.2.1
  have := qSum_rng (f := fun p => rp r p k) hK.1 (r 1).toNat 0 (fun q q1 q2 => by
    have hq := hO.p (p := q) (by omega)
    rcases hk with rfl | rfl
    · exact hq.2.2.2.2.2.2.2.1
    · exact hq.2.2.2.2.2.2.2.2.1)
  unfold qSumOf
  have e : ((r 1).toNat : Int) * K ≤ 8 * 100000000 := by
    have a1 : ((r 1).toNat : Int) * K ≤ 8 * K := Int.mul_le_mul_of_nonneg_right (by omega) hK.1
    omega
  omega
theorem a_share (hO : qOK r K) (hK : 0 ≤ K ∧ K ≤ 100000000) (hD : DR M (a + 1) r K) : fX8_waitShare g a M = some (sShare r) := by
  have s7 := sum_rng hO hK (k := 7) (Or.inl rfl)
  have s8 := sum_rng hO hK (k := 8) (Or.inr rfl)
  unfold fX8_waitShare sShare
  rw [c_allWaits hO hK.2 hD.1 hD.2.1, Option.bind_some, c_allSteps hO hK.2 hD.1 hD.2.1, Option.bind_some, gst_eq, gwi_eq (by omega) (by omega), Int.add_comm (qSumOf r 7)]
  by_cases h : qSumOf r 8 + qSumOf r 7 = 0
  · rw [if_neg (by omega), if_pos h]
  · have hn : fpN64 (FP.ddiv (FP.i2d (gi (qSumOf r 8))) (FP.i2d (gi (qSumOf r 8 + qSumOf r 7)))) := fp_ddiv (fp_int64 _) (fp_pos64 (by rw [gi_toInt ⟨by omega, by omega⟩]; omega))
    unfold fpN64 at hn
    rw [if_pos (by omega), if_pos hn, if_neg h]
theorem b_share (hO : qOK r K) (hK : 0 ≤ K ∧ K ≤ 100000000) : fX9_waitShare g a (mrow M (a + 1) r) = some (sShare r, mrow (gup M a 7 0) (a + 1) r) := by
  have h1 := hO.2.1
  have s7 := sum_rng hO hK (k := 7) (Or.inl rfl)
  have s8 := sum_rng hO hK (k := 8) (Or.inr rfl)
  unfold fX9_waitShare sShare
  rw [gst_eq, mrow_a7, m_sumOf (K := K) (by omega) h1 hK (fun p q1 q2 => (hO.p ⟨q1, q2⟩).2.2.2.2.2.2.2.2.1), Option.bind_some, m_sumOf (K := K) (by omega) h1 hK (fun p q1 q2 => (hO.p ⟨q1, q2⟩).2.2.2.2.2.2.2.1), Option.bind_some, gst_eq, gwi_eq (by omega) (by omega)]
  by_cases h : qSumOf r 8 + qSumOf r 7 = 0
  · rw [if_pos h, if_pos h]
  · have hn : fpN64 (FP.ddiv (FP.i2d (gi (qSumOf r 8))) (FP.i2d (gi (qSumOf r 8 + qSumOf r 7)))) := fp_ddiv (fp_int64 _) (fp_pos64 (by rw [gi_toInt ⟨by omega, by omega⟩]; omega))
    unfold fpN64 at hn
    rw [if_neg h, if_pos hn, if_neg h]
theorem c_full_lp (hO : qOK r K) (hD : DR M (a + 1) r K) : ∀ (n : Nat) (s : Int) (x : UInt32) (fu : Nat), 0 ≤ s → s + n = r 2 → fpN32 x → n < fu → fX8_fullness_4 g fu a x s M = some (if r 2 = 0 then FP.fconst0 else FP.fdiv (qFullN r n s x) (FP.i2f (gi (r 2)))) := by
  have h2 := hO.2.2.1
  intro n
  induction n with
  | zero =>
    intro s x fu h0 hs hx hf
    obtain ⟨fu, rfl⟩ := fuS hf
    unfold fX8_fullness_4 qFullN
    rw [hD.1.2.2.1, if_pos (by omega)]
    by_cases h : r 2 = 0
    · rw [if_neg (by omega), if_pos h]
    · have hn := fp_fdiv hx (fpG_s (fp_part (i := 0) (j := r 2) (by omega) (by omega)).2)
      unfold fpN32 at hn
      rw [if_pos (by omega), if_pos hn, if_neg h]
  | succ n ih =>
    intro s x fu h0 hs hx hf
    obtain ⟨fu, rfl⟩ := fuS hf
    have hS := hD.2.2.1 s h0 (by omega)
    have hOs := hO.2.2.2.2.2.2.2 s h0 (by omega)
    have hb0 := hOs.1
    have hl0 := hOs.2.1
    obtain ⟨p1, p2⟩ := fp_part (i := rs r s 1) (j := rs r s 0) (by omega) hOs.1
    have n1 := fp_fin p1
    have n2 := fp_fadd hx (fpF_s p1)
    have i1 := ih (s + 1) _ fu (by omega) (by omega) n2 (by omega)
    unfold fpN32 at n1 n2
    unfold fX8_fullness_4 qFullN fX8_fullness_49
    rw [hD.1.2.2.1, if_neg (by omega), c_pileAt_in hD.1 h2 ⟨h0, by omega⟩, Option.bind_some, if_neg (by omega), hS.1, hS.2.1, if_neg (by omega), if_pos n1, if_pos n2, gst_eq, gwi_eq (by omega) (by omega)]
    exact i1
theorem a_full (hO : qOK r K) (hD : DR M (a + 1) r K) : fX8_fullness g a M = some (sFull r) := by
  have h2 := hO.2.2.1
  unfold fX8_fullness sFull
  exact c_full_lp hO hD (r 2).toNat 0 FP.fconst0 gF (by omega) (by omega) (by unfold fpN32; decide) (by unfold gF; omega)
theorem m_full_lp (hO : qOK r K) : ∀ (n : Nat) (s : Int) (x : UInt32) (fu : Nat), 0 ≤ s → s + n = r 2 → fpN32 x → n < fu → fX9_fullness_9 g fu a x s (mrow M (a + 1) r) = some (if r 2 = 0 then FP.fconst0 else FP.fdiv (qFullN r n s x) (FP.i2f (gi (r 2))), mrow M (a + 1) r) := by
  have h2 := hO.2.2.1
  intro n
  induction n with
  | zero =>
    intro s x fu h0 hs hx hf
    obtain ⟨fu, rfl⟩ := fuS hf
    unfold fX9_fullness_9 qFullN
    rw [mrow_at, tn2, if_pos (by omega), if_pos (by omega), if_pos (by omega)]
    by_cases h : r 2 = 0
    · rw [if_pos h, if_pos h]
    · have hn := fp_fdiv hx (fpG_s (fp_part (i := 0) (j := r 2) (by omega) (by omega)).2)
      unfold fpN32 at hn
      rw [if_neg h, if_pos (by omega), if_pos hn, if_neg h]
  | succ n ih =>
    intro s x fu h0 hs hx hf
    obtain ⟨fu, rfl⟩ := fuS hf
    have hOs := hO.2.2.2.2.2.2.2 s h0 (by omega)
    have hb0 := hOs.1
    have hl0 := hOs.2.1
    obtain ⟨p1, p2⟩ := fp_part (i := rs r s 1) (j := rs r s 0) (by omega) hOs.1
    have n1 := fp_fin p1
    have n2 := fp_fadd hx (fpF_s p1)
    have i1 := ih (s + 1) _ fu (by omega) (by omega) n2 (by omega)
    unfold fpN32 at n1 n2
    unfold fX9_fullness_9 qFullN
    rw [mrow_at, tn2, if_pos (by omega), if_neg (by omega), m_ofS (by omega) (by omega), Option.bind_some, m_ofS (by omega) (by omega), Option.bind_some, if_pos n1, if_pos n2, gst_eq, gwi_eq (by omega) (by omega)]
    exact i1
theorem b_full (hO : qOK r K) : fX9_fullness g a (mrow M (a + 1) r) = some (sFull r, mrow (gup M a 7 0) (a + 1) r) := by
  have h2 := hO.2.2.1
  unfold fX9_fullness sFull
  rw [gst_eq, mrow_a7]
  exact m_full_lp hO (r 2).toNat 0 FP.fconst0 gF (by omega) (by omega) (by unfold fpN32; decide) (by unfold gF; omega)
end Flo
