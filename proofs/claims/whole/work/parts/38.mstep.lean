/-! PURE: one command of the reference, on its row -/
def qTS : Nat → Int → gRow → gRow
  | 0, _, r => r
  | n + 1, x, r => qTS n (x + 1) (rup r x (r (x + 4).toNat))
def qTr1 (r : gRow) (p x y : Int) : gRow :=
  rup (rup (rup (rup (rup r (1030 + 4 * r 5) (r 3)) (1030 + 4 * r 5 + 1) p) (1030 + 4 * r 5 + 2) x) (1030 + 4 * r 5 + 3) y) 5 (r 5 + 1)
def qTr0 (r : gRow) : gRow := rup (qTS 156 1030 r) 5 (qTS 156 1030 r 5 - 1)
def qTr (r : gRow) (p x y : Int) : gRow := if r 5 = 40 then qTr1 (qTr0 r) p x y else qTr1 r p x y
def qDoes (r : gRow) (p c v : Int) : gRow :=
  if c = 0 then qPush r (qInHand r p) v else if c = 1 then qPop r (qInHand r p) else if c = 2 then qPush r (qInHand r p) (qNum r (qInHand r p) 0) else
  if c = 3 then qPush (qPush (qPop (qPop r (qInHand r p)) (qInHand r p)) (qInHand r p) (qNum r (qInHand r p) 0)) (qInHand r p) (qNum r (qInHand r p) 1) else
  if 4 ≤ c ∧ c ≤ 6 then qPush (qPop (qPop r (qInHand r p)) (qInHand r p)) (qInHand r p) (qRes r (qInHand r p) c) else
  if c = 7 then qPop (qSay r p (qNum r (qInHand r p) 0)) (qInHand r p) else if 8 ≤ c ∧ c ≤ 10 then qEx r p (qInHand r p) v else if c = 11 then rsp r p 2 v else
  if c = 12 then qPop (if qNum r (qInHand r p) 0 = 0 then rsp r p 2 v else r) (qInHand r p) else rsp (rsp r p 0 1) p 2 (rp r p 2 - 1)
def qCan (r : gRow) (p c v : Int) : Prop :=
  (0 ≤ c ∧ c ≤ 13) ∧ (c ≤ 7 ∨ c = 12 → (0 ≤ qInHand r p ∧ qInHand r p < r 2) ∧ qNeed c ≤ rs r (qInHand r p) 1 ∧ (c = 0 ∨ c = 2 → rs r (qInHand r p) 1 < rs r (qInHand r p) 0) ∧ (4 ≤ c ∧ c ≤ 6 → -999999 ≤ qRes r (qInHand r p) c ∧ qRes r (qInHand r p) c ≤ 999999)) ∧ (8 ≤ c ∧ c ≤ 10 → 0 ≤ v ∧ v < r 0) ∧ (c = 11 ∨ c = 12 → 0 ≤ v ∧ v ≤ 24) ∧ (-999999 ≤ v ∧ v ≤ 999999)
section MStep
variable {g : Nat → Nat} {a : Nat} {M : gMem} {r : gRow} {K : Int}
theorem qTS_at : ∀ (n : Nat) (x : Int) (r : gRow), 0 ≤ x → ∀ j : Nat, qTS n x r j = if x.toNat ≤ j ∧ j < x.toNat + n then r (j + 4) else r j := by
  intro n
  induction n with
  | zero => intro x r _ j; unfold qTS; rw [if_neg (by omega)]
  | succ n ih =>
    intro x r hx j
    unfold qTS
    rw [ih _ _ (by omega) j]
    by_cases h : (x + 1).toNat ≤ j ∧ j < (x + 1).toNat + n
    · rw [if_pos h, if_pos (by omega)]
      exact rup_miss (by omega)
    · rw [if_neg h]
      by_cases h2 : j = x.toNat
      · rw [if_pos (by omega), rup_hit h2]
        have : (x + 4).toNat = j + 4 := by omega
        rw [this]
      · rw [if_neg (by omega), rup_miss h2]
theorem m_t56 {p x y : Int} (h5 : 0 ≤ r 5 ∧ r 5 ≤ 39) : fX9_traces_56 g a p x y (mrow M (a + 1) r) = some (mrow M (a + 1) (qTr1 r p x y)) := by
  unfold fX9_traces_56 qTr1
  have e : ∀ v : Int, rup (rup (rup (rup r (1030 + 4 * r 5) (r 3)) (1030 + 4 * r 5 + 1) p) (1030 + 4 * r 5 + 2) x) (1030 + 4 * r 5 + 3) v 5 = r 5 := by
    intro v
    rw [rup_miss (by omega), rup_miss (by omega), rup_miss (by omega), rup_miss (by omega)]
  have t5 : mrow M (a + 1) r (a + 1) (5 : Int).toNat = r 5 := by rw [mrow_at]; rfl
  have t3 : mrow M (a + 1) r (a + 1) (3 : Int).toNat = r 3 := by rw [mrow_at]; rfl
  simp (disch := omega) only [if_pos, t5, t3, gwi_eq, gst_eq, mrow_up]
  rw [mrow_at]
  have e5 : (5 : Int).toNat = 5 := rfl
  rw [e5, e]
  simp (disch := omega) only [gwi_eq]
theorem m_t16 {p x y : Int} : ∀ (n : Nat) (z : Int) (r : gRow) (fu : Nat), 1030 ≤ z → z + n = 1186 → r 5 = 40 → n < fu → fX9_traces_16 g fu a p x y z (mrow M (a + 1) r) = some (mrow M (a + 1) (qTr1 (rup (qTS n z r) 5 39) p x y)) := by
  intro n
  induction n with
  | zero =>
    intro z r fu h0 hs h5 hf
    obtain ⟨fu, rfl⟩ := fuS hf
    unfold fX9_traces_16 qTS
    have t5 : mrow M (a + 1) r (a + 1) (5 : Int).toNat = 40 := by rw [mrow_at]; exact h5
    have e : rup r 5 39 5 = 39 := rup_hit rfl
    have e' : (40 : Int) - 1 = 39 := rfl
    simp (disch := omega) only [if_pos, t5, gwi_eq, gst_eq, mrow_up, e']
    exact m_t56 (by omega)
  | succ n ih =>
    intro z r fu h0 hs h5 hf
    obtain ⟨fu, rfl⟩ := fuS hf
    unfold fX9_traces_16 qTS
    rw [if_neg (by omega)]
    simp (disch := omega) only [if_pos, gwi_eq, gst_eq, mrow_up]
    rw [mrow_at]
    exact ih (z + 1) _ fu (by omega) (by omega) (by rw [rup_miss (by omega)]; exact h5) (by omega)
theorem m_traces {p x y : Int} (h5 : 0 ≤ r 5 ∧ r 5 ≤ 40) : fX9_traces g a p x y (mrow M (a + 1) r) = some (mrow M (a + 1) (qTr r p x y)) := by
  unfold fX9_traces qTr qTr0
  have t5 : mrow M (a + 1) r (a + 1) (5 : Int).toNat = r 5 := by rw [mrow_at]; rfl
  simp (disch := omega) only [if_pos, t5]
  by_cases h : r 5 = 40
  · have e : qTS 156 1030 r 5 = 40 := by rw [qTS_at _ _ _ (by omega), if_neg (by omega)]; exact h
    rw [if_pos h, if_pos h, e]
    exact m_t16 156 1030 r gF (by omega) (by omega) h (by unfold gF; omega)
  · rw [if_neg h, if_neg h]
    exact m_t56 (by omega)
theorem m_does {p c v : Int} (hO : qOK r K) (hK : K ≤ 1000000000) (hp : 0 ≤ p ∧ p < r 1) (hC : qCan r p c v) : fX9_does g a p c v (mrow M (a + 1) r) = some (mrow M (a + 1) (qDoes r p c v)) := by
  have h2 := hO.2.2.1
  have h1 := hO.2.1
  have hOp := hO.2.2.2.2.2.2.1 p hp.1 hp.2
  have hp8 : 0 ≤ p ∧ p < 8 := by omega
  unfold fX9_does qDoes
  rw [m_inHand h2, Option.bind_some]
  obtain ⟨hc, hA, hB, hJ, hv⟩ := hC
  by_cases c7 : c ≤ 7 ∨ c = 12
  · obtain ⟨hh, hn, hf, hr⟩ := hA c7
    have hst := hO.st hh
    have hb : rs r (qInHand r p) 1 ≤ rs r (qInHand r p) 0 ∧ rs r (qInHand r p) 0 ≤ 16 := by
      have q := hO.2.2.2.2.2.2.2 _ hh.1 hh.2
      exact ⟨q.2.1.2, q.1.2⟩
    have hs1 := hst.2.1
    have hn0 : 0 ≤ rs r (qInHand r p) 1 → fX9_numberOf g a (qInHand r p) 0 (mrow M (a + 1) r) = some (qNum r (qInHand r p) 0) := fun _ => m_num hst.1 hs1 (by omega)
    have hn1 : fX9_numberOf g a (qInHand r p) 1 (mrow M (a + 1) r) = some (qNum r (qInHand r p) 1) := m_num hst.1 hs1 (by omega)
    have e1 : rs (qPop r (qInHand r p)) (qInHand r p) 1 = rs r (qInHand r p) 1 - 1 := rs_rss_eq
    have e2 : rs (qPop (qPop r (qInHand r p)) (qInHand r p)) (qInHand r p) 1 = rs r (qInHand r p) 1 - 2 := by
      have : rs (qPop (qPop r (qInHand r p)) (qInHand r p)) (qInHand r p) 1 = rs (qPop r (qInHand r p)) (qInHand r p) 1 - 1 := rs_rss_eq
      rw [this, e1]; omega
    have e3 : ∀ x : Int, rs (qPush (qPop (qPop r (qInHand r p)) (qInHand r p)) (qInHand r p) x) (qInHand r p) 1 = rs r (qInHand r p) 1 - 1 := by
      intro x
      have : rs (qPush (qPop (qPop r (qInHand r p)) (qInHand r p)) (qInHand r p) x) (qInHand r p) 1 = rs (qPop (qPop r (qInHand r p)) (qInHand r p)) (qInHand r p) 1 + 1 := rs_rss_eq
      rw [this, e2]; omega
    by_cases c0 : c = 0
    · have := hf (Or.inl c0)
      rw [if_pos c0, if_pos c0, m_pushes hst.1 (by omega), Option.bind_some]
    rw [if_neg c0, if_neg c0]
    by_cases c1 : c = 1
    · rw [if_pos c1, if_pos c1, m_pops hst.1 hs1, Option.bind_some]
    rw [if_neg c1, if_neg c1]
    by_cases c2 : c = 2
    · have := hf (Or.inr c2)
      rw [if_pos c2, if_pos c2, hn0 hs1.1, Option.bind_some, m_pushes hst.1 (by omega), Option.bind_some]
    rw [if_neg c2, if_neg c2]
    by_cases c3 : c = 3
    · have hn' : 2 ≤ rs r (qInHand r p) 1 := by
        have : qNeed c = 2 := by rw [c3]; decide
        omega
      rw [if_pos c3, if_pos c3]
      unfold fX9_flips
      rw [hn0 hs1.1, Option.bind_some, hn1, Option.bind_some, m_pops hst.1 hs1, Option.bind_some, m_pops hst.1 (by omega), Option.bind_some, m_pushes hst.1 (by omega), Option.bind_some, m_pushes hst.1 (by rw [e3]; omega), Option.bind_some, Option.bind_some]
    rw [if_neg c3, if_neg c3]
    by_cases c4 : 4 ≤ c ∧ c ≤ 6
    · have hn' : 2 ≤ rs r (qInHand r p) 1 := by
        have : qNeed c = 2 := by unfold qNeed; rw [if_neg (by omega), if_pos (by omega)]
        omega
      have hrr := hr c4
      have key : fX9_does_120 g a c (qInHand r p) (mrow M (a + 1) r) = some (mrow M (a + 1) (qPush (qPop (qPop r (qInHand r p)) (qInHand r p)) (qInHand r p) (qRes r (qInHand r p) c))) := by
        unfold fX9_does_120 fX9_reckons
        rw [m_res hst hn', Option.bind_some, gst_eq, gwi_eq (by omega) (by omega), m_pops hst.1 hs1, Option.bind_some, m_pops hst.1 (by omega), Option.bind_some, m_pushes hst.1 (by omega), Option.bind_some, Option.bind_some]
      rw [if_pos c4]
      by_cases q4 : c = 4
      · rw [if_pos q4]; exact key
      rw [if_neg q4]
      by_cases q5 : c = 5
      · rw [if_pos q5]; exact key
      rw [if_neg q5, if_pos (by omega)]; exact key
    rw [if_neg c4, if_neg (by omega), if_neg (by omega), if_neg (by omega)]
    have hn' : 1 ≤ rs r (qInHand r p) 1 := by
      have : qNeed c = 1 := by unfold qNeed; rw [if_pos (by omega)]
      omega
    by_cases c7' : c = 7
    · rw [if_pos c7', if_pos c7']
      unfold fX9_says1
      have e4 : rs (qSay r p (qNum r (qInHand r p) 0)) (qInHand r p) 1 = rs r (qInHand r p) 1 := by
        unfold qSay qSay2 qSay1
        rw [rs_rsp hp8 hst.1.1 (by omega) (by omega), rs_rsp hp8 hst.1.1 (by omega) (by omega)]
        exact qSh_off hp.1 19 r (by omega) _ (by omega)
      have h9 := hOp.2.2.2.2.2.2.2.2.2.1
      rw [hn0 hs1.1, Option.bind_some, m_say hp8 (by omega), Option.bind_some, m_pops hst.1 (by rw [e4]; exact hs1), Option.bind_some, Option.bind_some]
    have c12 : c = 12 := by omega
    simp (disch := omega) only [if_pos, if_neg]
    unfold fX9_asksZero fX9_asksZero_16
    rw [hn0 hs1.1, Option.bind_some]
    by_cases hz : qNum r (qInHand r p) 0 = 0
    · have e5 : rs (rsp r p 2 v) (qInHand r p) 1 = rs r (qInHand r p) 1 := rs_rsp hp8 hst.1.1 (by omega) (by omega)
      rw [if_pos hz, if_pos hz, m_sets hp8 (by omega), Option.bind_some, m_pops hst.1 (by rw [e5]; exact hs1), Option.bind_some, Option.bind_some]
    · rw [if_neg hz, if_neg hz, m_pops hst.1 hs1, Option.bind_some, Option.bind_some]
  · by_cases c8 : 8 ≤ c ∧ c ≤ 10
    · have key : fX9_does_140 g a p v (qInHand r p) (mrow M (a + 1) r) = some (mrow M (a + 1) (qEx r p (qInHand r p) v)) := by
        unfold fX9_does_140
        have hh := qHand_in h2.1 (r := r) p
        have ho := qSlot_in h2.1 (r := r) v
        have hvv := hB c8
        rw [m_ex h2 (by rcases hh with q | q; exact Or.inl q; exact Or.inr q.1) (fun s q1 q2 => by have := (hO.2.2.2.2.2.2.2 s q1 q2).2.2.2.2.2.1; omega) (by
          rcases ho with q | q
          · exact Or.inl q
          · right
            intro he
            rcases hh with q' | q'
            · omega
            · rw [← he] at q
              have := (hO.2.2.2.2.2.2.2 _ q'.1.1 q'.1.2).2.2.2.2.1
              omega), Option.bind_some]
      have c8' : c = 8 ∨ c = 9 ∨ c = 10 := by omega
      rcases c8' with q | q | q <;> simp (disch := omega) only [if_pos, if_neg, key, Option.bind_some]
    by_cases c11 : c = 11
    · simp (disch := omega) only [if_pos, if_neg, m_sets hp8, Option.bind_some]
    have hpl := hOp.2.2.1
    have c13 : c = 13 := by omega
    have e6 : rp (rsp r p 0 1) p 2 = rp r p 2 := rp_rsp_ne (by omega) (by omega) (by omega) (by omega) (by omega)
    simp (disch := omega) only [if_pos, if_neg, m_sets hp8, m_of hp8, Option.bind_some, gwi_eq, e6]
end MStep
