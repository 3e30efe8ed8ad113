/-! PURE: the reference's methods on its row -/
theorem tn0 : (0 : Int).toNat = 0 := rfl
theorem tn1 : (1 : Int).toNat = 1 := rfl
theorem tn2 : (2 : Int).toNat = 2 := rfl
theorem tn3 : (3 : Int).toNat = 3 := rfl
theorem tn4 : (4 : Int).toNat = 4 := rfl
theorem tn5 : (5 : Int).toNat = 5 := rfl
theorem fuS {n fu : Nat} (h : n < fu) : ∃ f, fu = f + 1 := ⟨fu - 1, by omega⟩
theorem m_of {g : Nat → Nat} {a : Nat} {M : gMem} {r : gRow} {p k : Int} (hp : 0 ≤ p ∧ p < 8) (hk : 0 ≤ k ∧ k < 86) : fX9_of g a p k (mrow M (a + 1) r) = some (rp r p k) := by
  unfold fX9_of rp
  simp (disch := omega) only [gwi_eq, if_pos, mrow_at]
theorem m_sets {g : Nat → Nat} {a : Nat} {M : gMem} {r : gRow} {p k v : Int} (hp : 0 ≤ p ∧ p < 8) (hk : 0 ≤ k ∧ k < 86) : fX9_sets g a p k v (mrow M (a + 1) r) = some (mrow M (a + 1) (rsp r p k v)) := by
  unfold fX9_sets rsp
  simp (disch := omega) only [gwi_eq, if_pos, gst_eq, mrow_up]
theorem m_ofS {g : Nat → Nat} {a : Nat} {M : gMem} {r : gRow} {s k : Int} (hs : 0 ≤ s ∧ s < 12) (hk : 0 ≤ k ∧ k < 21) : fX9_ofStack g a s k (mrow M (a + 1) r) = some (rs r s k) := by
  unfold fX9_ofStack rs
  simp (disch := omega) only [gwi_eq, if_pos, mrow_at]
theorem m_puts {g : Nat → Nat} {a : Nat} {M : gMem} {r : gRow} {s k v : Int} (hs : 0 ≤ s ∧ s < 12) (hk : 0 ≤ k ∧ k < 21) : fX9_puts g a s k v (mrow M (a + 1) r) = some (mrow M (a + 1) (rss r s k v)) := by
  unfold fX9_puts rss
  simp (disch := omega) only [gwi_eq, if_pos, gst_eq, mrow_up]
/-- a truth as 0 or 1 -/
def qB (P : Prop) [Decidable P] : Int := if P then 1 else 0
theorem qB_t {P : Prop} [Decidable P] (h : P) : qB P = 1 := if_pos h
theorem qB_f {P : Prop} [Decidable P] (h : ¬ P) : qB P = 0 := if_neg h
theorem qB_0 {P : Prop} [Decidable P] : qB P = 0 ↔ ¬ P := by unfold qB; split <;> simp_all
theorem qB_01 {P : Prop} [Decidable P] : qB P = 0 ∨ qB P = 1 := by unfold qB; split <;> simp
theorem m_isIn {g : Nat → Nat} {x lo hi : Int} : fX9_isIn g x lo hi = some (qB (lo ≤ x ∧ x ≤ hi)) := by
  unfold fX9_isIn
  by_cases h1 : x < lo
  · rw [if_pos h1, qB_f (by omega)]
  · rw [if_neg h1]
    by_cases h2 : hi < x
    · rw [if_pos h2, qB_f (by omega)]
    · rw [if_neg h2, qB_t (by omega)]
theorem qB_c {P Q : Prop} [Decidable P] [Decidable Q] (h : P ↔ Q) : qB P = qB Q := by
  by_cases hp : P
  · rw [qB_t hp, qB_t (h.mp hp)]
  · rw [qB_f hp, qB_f (fun q => hp (h.mpr q))]
section Model1
variable {g : Nat → Nat} {a : Nat} {M : gMem} {r : gRow}
theorem m_isP (h : 1 ≤ r 1 ∧ r 1 ≤ 8) {p : Int} : fX9_isProcess g a p (mrow M (a + 1) r) = some (qB (0 ≤ p ∧ p < r 1)) := by
  unfold fX9_isProcess
  simp (disch := omega) only [if_pos, mrow_at, tn1, gwi_eq, m_isIn, Option.bind_some]
  rw [qB_c (show (0 ≤ p ∧ p ≤ r 1 - 1) ↔ (0 ≤ p ∧ p < r 1) by omega)]
theorem m_isS (h : 0 ≤ r 2 ∧ r 2 ≤ 12) {p : Int} : fX9_isStack g a p (mrow M (a + 1) r) = some (qB (0 ≤ p ∧ p < r 2)) := by
  unfold fX9_isStack
  simp (disch := omega) only [if_pos, mrow_at, tn2, gwi_eq, m_isIn, Option.bind_some]
  rw [qB_c (show (0 ≤ p ∧ p ≤ r 2 - 1) ↔ (0 ≤ p ∧ p < r 2) by omega)]
theorem m_isSl (h : 1 ≤ r 0 ∧ r 0 ≤ 4) {p : Int} : fX9_isSlot g a p (mrow M (a + 1) r) = some (qB (0 ≤ p ∧ p < r 0)) := by
  unfold fX9_isSlot
  simp (disch := omega) only [if_pos, mrow_at, tn0, gwi_eq, m_isIn, Option.bind_some]
  rw [qB_c (show (0 ≤ p ∧ p ≤ r 0 - 1) ↔ (0 ≤ p ∧ p < r 0) by omega)]
theorem m_inHand_lp {p : Int} (h2 : 0 ≤ r 2 ∧ r 2 ≤ 12) : ∀ (n : Nat) (s : Int) (fu : Nat), 0 ≤ s → s + n = r 2 → n < fu → fX9_inHand_2 g fu a p s (mrow M (a + 1) r) = some (qFind (fun s => decide (rs r s 2 = p)) n s) := by
  intro n
  induction n with
  | zero =>
    intro s fu h0 hs hf
    obtain ⟨fu, rfl⟩ := fuS hf
    unfold fX9_inHand_2 qFind
    simp (disch := omega) only [if_pos, mrow_at, tn2]
  | succ n ih =>
    intro s fu h0 hs hf
    obtain ⟨fu, rfl⟩ := fuS hf
    unfold fX9_inHand_2 qFind
    simp (disch := omega) only [if_pos, mrow_at, tn2, if_neg, m_ofS, Option.bind_some, gst_eq, gwi_eq]
    by_cases h : rs r s 2 = p
    · rw [if_pos h, if_pos (by simpa using h)]
    · rw [if_neg h, if_neg (by simpa using h)]
      exact ih (s + 1) fu (by omega) (by omega) (by omega)
theorem m_inHand (h2 : 0 ≤ r 2 ∧ r 2 ≤ 12) {p : Int} : fX9_inHand g a p (mrow M (a + 1) r) = some (qInHand r p) := by
  unfold fX9_inHand qInHand
  exact m_inHand_lp h2 _ _ _ (by omega) (by omega) (by unfold gF; omega)
theorem m_onSlot_lp {p : Int} (h2 : 0 ≤ r 2 ∧ r 2 ≤ 12) : ∀ (n : Nat) (s : Int) (fu : Nat), 0 ≤ s → s + n = r 2 → n < fu → fX9_onSlot_2 g fu a p s (mrow M (a + 1) r) = some (qFind (fun s => decide (rs r s 3 = p)) n s) := by
  intro n
  induction n with
  | zero =>
    intro s fu h0 hs hf
    obtain ⟨fu, rfl⟩ := fuS hf
    unfold fX9_onSlot_2 qFind
    simp (disch := omega) only [if_pos, mrow_at, tn2]
  | succ n ih =>
    intro s fu h0 hs hf
    obtain ⟨fu, rfl⟩ := fuS hf
    unfold fX9_onSlot_2 qFind
    simp (disch := omega) only [if_pos, mrow_at, tn2, if_neg, m_ofS, Option.bind_some, gst_eq, gwi_eq]
    by_cases h : rs r s 3 = p
    · rw [if_pos h, if_pos (by simpa using h)]
    · rw [if_neg h, if_neg (by simpa using h)]
      exact ih (s + 1) fu (by omega) (by omega) (by omega)
theorem m_onSlot (h2 : 0 ≤ r 2 ∧ r 2 ≤ 12) {p : Int} : fX9_onSlot g a p (mrow M (a + 1) r) = some (qOnSlot r p) := by
  unfold fX9_onSlot qOnSlot
  exact m_onSlot_lp h2 _ _ _ (by omega) (by omega) (by unfold gF; omega)
def qMay (r : gRow) (p s : Int) : Prop := gand (gshr (rp r p 5) s) 1 = 1
theorem m_mayUse {p s : Int} (hp : 0 ≤ p ∧ p < 8) : fX9_mayUse g a p s (mrow M (a + 1) r) = some (if gand (gshr (rp r p 5) s) 1 = 1 then 1 else 0) := by
  unfold fX9_mayUse
  simp (disch := omega) only [m_of, Option.bind_some]
  split <;> rfl
theorem m_isReady {p : Int} (hp : 0 ≤ p ∧ p < 8) : fX9_isReady g a p (mrow M (a + 1) r) = some (qB (rp r p 0 = 0)) := by
  unfold fX9_isReady qB
  simp (disch := omega) only [m_of, Option.bind_some]
  split <;> rfl
def qCountOf (r : gRow) (st : Int) : Int := qCnt (fun p => decide (rp r p 0 = st)) (r 1).toNat 0
def qSumOf (r : gRow) (k : Int) : Int := qSum (fun p => rp r p k) (r 1).toNat 0
theorem qCnt_rng (P : Int → Bool) : ∀ (n : Nat) (s : Int), 0 ≤ qCnt P n s ∧ qCnt P n s ≤ n := by
  intro n
  induction n with
  | zero => intro s; exact ⟨Int.le_refl 0, Int.le_refl 0⟩
  | succ n ih =>
    intro s
    have := ih (s + 1)
    unfold qCnt
    split <;> omega
theorem m_countOf_lp {st : Int} (h1 : 1 ≤ r 1 ∧ r 1 ≤ 8) : ∀ (n : Nat) (p c : Int) (fu : Nat), 0 ≤ p → p + n = r 1 → 0 ≤ c → c ≤ p → n < fu → fX9_countOf_4 g fu a st c p (mrow M (a + 1) r) = some (c + qCnt (fun p => decide (rp r p 0 = st)) n p) := by
  intro n
  induction n with
  | zero =>
    intro p c fu h0 hs hc hcp hf
    obtain ⟨fu, rfl⟩ := fuS hf
    unfold fX9_countOf_4 qCnt
    simp (disch := omega) only [if_pos, mrow_at, tn1, Int.add_zero]
  | succ n ih =>
    intro p c fu h0 hs hc hcp hf
    obtain ⟨fu, rfl⟩ := fuS hf
    unfold fX9_countOf_4 qCnt fX9_countOf_30
    simp (disch := omega) only [if_pos, mrow_at, tn1, if_neg, m_of, Option.bind_some, gst_eq, gwi_eq]
    by_cases h : rp r p 0 = st
    · rw [if_pos h, if_pos (by simpa using h), ih (p + 1) (c + 1) fu (by omega) (by omega) (by omega) (by omega) (by omega)]
      congr 1; omega
    · rw [if_neg h, if_neg (by simpa using h), ih (p + 1) (c + 0) fu (by omega) (by omega) (by omega) (by omega) (by omega)]
      congr 1; omega
theorem m_countOf {st : Int} (h1 : 1 ≤ r 1 ∧ r 1 ≤ 8) : fX9_countOf g a st (mrow M (a + 1) r) = some (qCountOf r st) := by
  unfold fX9_countOf qCountOf
  rw [m_countOf_lp h1 (r 1).toNat 0 0 gF (by omega) (by omega) (by omega) (by omega) (by unfold gF; omega)]
  congr 1; omega
theorem m_sumOf_lp {k K : Int} (hk : 0 ≤ k ∧ k < 86) (h1 : 1 ≤ r 1 ∧ r 1 ≤ 8) (hK : 0 ≤ K ∧ K ≤ 100000000) (hb : ∀ p : Int, 0 ≤ p → p < r 1 → 0 ≤ rp r p k ∧ rp r p k ≤ K) : ∀ (n : Nat) (p c : Int) (fu : Nat), 0 ≤ p → p + n = r 1 → 0 ≤ c → c ≤ p * K → n < fu → fX9_sumOf_4 g fu a k c p (mrow M (a + 1) r) = some (c + qSum (fun p => rp r p k) n p) := by
  intro n
  induction n with
  | zero =>
    intro p c fu h0 hs hc hcp hf
    obtain ⟨fu, rfl⟩ := fuS hf
    unfold fX9_sumOf_4 qSum
    simp (disch := omega) only [if_pos, mrow_at, tn1, Int.add_zero]
  | succ n ih =>
    intro p c fu h0 hs hc hcp hf
    obtain ⟨fu, rfl⟩ := fuS hf
    unfold fX9_sumOf_4 qSum
    have hb1 := hb p h0 (by omega)
    have hm : (p + 1) * K = p * K + K := by rw [Int.add_mul, Int.one_mul]
    have hm2 : p * K ≤ 8 * K := Int.mul_le_mul_of_nonneg_right (by omega) hK.1
    simp (disch := omega) only [if_pos, mrow_at, tn1, if_neg, m_of, Option.bind_some, gst_eq, gwi_eq]
    rw [ih (p + 1) (c + rp r p k) fu (by omega) (by omega) (by omega) (by omega) (by omega)]
    congr 1; omega
theorem m_sumOf {k K : Int} (hk : 0 ≤ k ∧ k < 86) (h1 : 1 ≤ r 1 ∧ r 1 ≤ 8) (hK : 0 ≤ K ∧ K ≤ 100000000) (hb : ∀ p : Int, 0 ≤ p → p < r 1 → 0 ≤ rp r p k ∧ rp r p k ≤ K) : fX9_sumOf g a k (mrow M (a + 1) r) = some (qSumOf r k) := by
  unfold fX9_sumOf qSumOf
  rw [m_sumOf_lp hk h1 hK hb (r 1).toNat 0 0 gF (by omega) (by omega) (by omega) (by omega) (by unfold gF; omega)]
  congr 1; omega
def qNeed (c : Int) : Int := if c = 1 ∨ c = 2 ∨ c = 7 ∨ c = 12 then 1 else if 3 ≤ c ∧ c ≤ 6 then 2 else 0
theorem m_needed {c : Int} : fX9_neededBy g c = some (qNeed c) := by
  unfold fX9_neededBy qNeed
  repeat (split; · simp (disch := omega) only [if_pos, if_neg])
  simp (disch := omega) only [if_pos, if_neg]
theorem m_isSum {c : Int} : fX9_isSum g c = some (qB (4 ≤ c ∧ c ≤ 6)) := by
  unfold fX9_isSum
  simp only [m_isIn, Option.bind_some]
theorem m_isOfSlot {c : Int} : fX9_isOfSlot g c = some (qB (8 ≤ c ∧ c ≤ 10)) := by
  unfold fX9_isOfSlot
  simp only [m_isIn, Option.bind_some]
def qNum (r : gRow) (s d : Int) : Int := rs r s (5 + rs r s 1 - 1 - d)
theorem m_num {s d : Int} (hs : 0 ≤ s ∧ s < 12) (h1 : 0 ≤ rs r s 1 ∧ rs r s 1 ≤ 16) (hd : 0 ≤ d ∧ d ≤ rs r s 1 + 4) : fX9_numberOf g a s d (mrow M (a + 1) r) = some (qNum r s d) := by
  unfold fX9_numberOf qNum
  simp (disch := omega) only [m_ofS, Option.bind_some, gwi_eq]
def qRes (r : gRow) (s c : Int) : Int := if c = 4 then qNum r s 1 + qNum r s 0 else if c = 5 then qNum r s 1 - qNum r s 0 else qNum r s 1 * qNum r s 0
end Model1
