/-! PURE: what the reference's calls make of a row -/
def qPop (r : gRow) (s : Int) : gRow := rss r s 1 (rs r s 1 - 1)
def qPush (r : gRow) (s v : Int) : gRow := rss (rss r s (5 + rs r s 1) v) s 1 (rs r s 1 + 1)
def qGo (r : gRow) (s p k : Int) : gRow := rss (rss (rss r s 2 p) s 3 k) s 4 (rs r s 4 + 1)
def qEx1 (r : gRow) (h k : Int) : gRow := if h = -1 then r else qGo r h (-1) k
def qEx (r : gRow) (p h k : Int) : gRow := if qOnSlot r k = -1 then qEx1 r h k else qGo (qEx1 r h k) (qOnSlot r k) p (-1)
/-- the numbers said move on by one place -/
def qSh (p : Int) : Nat → gRow → gRow
  | 0, r => r
  | n + 1, r => qSh p n (rsp r p (66 + (n + 1)) (rp r p (66 + n)))
def qSay1 (r : gRow) (p v : Int) : gRow := rsp r p 66 v
def qSay2 (r : gRow) (p : Int) : gRow := rsp r p 9 (rp r p 9 + 1)
def qSay (r : gRow) (p v : Int) : gRow := qSay2 (qSay1 (qSh p 19 r) p v) p
section MUpd
variable {g : Nat → Nat} {a : Nat} {M : gMem} {r : gRow}
theorem m_pops {s : Int} (hs : 0 ≤ s ∧ s < 12) (h1 : 0 ≤ rs r s 1 ∧ rs r s 1 ≤ 16) : fX9_pops g a s (mrow M (a + 1) r) = some (mrow M (a + 1) (qPop r s)) := by
  unfold fX9_pops qPop
  simp (disch := omega) only [m_ofS, m_puts, Option.bind_some, gwi_eq]
theorem m_pushes {s v : Int} (hs : 0 ≤ s ∧ s < 12) (h1 : 0 ≤ rs r s 1 ∧ rs r s 1 ≤ 15) : fX9_pushes g a s v (mrow M (a + 1) r) = some (mrow M (a + 1) (qPush r s v)) := by
  unfold fX9_pushes qPush
  have e : rs (rss r s (5 + rs r s 1) v) s 1 = rs r s 1 := rs_rss_ne (by omega) (by omega) (by omega) (by omega) (by omega)
  simp (disch := omega) only [m_ofS, m_puts, Option.bind_some, gwi_eq, e]
theorem m_goes {s p k : Int} (hs : 0 ≤ s ∧ s < 12) (h1 : 0 ≤ rs r s 4 ∧ rs r s 4 ≤ 2000000000) : fX9_goes g a s p k (mrow M (a + 1) r) = some (mrow M (a + 1) (qGo r s p k)) := by
  unfold fX9_goes qGo
  have e : rs (rss (rss r s 2 p) s 3 k) s 4 = rs r s 4 := by
    simp (disch := omega) only [rs_rss_ne]
  simp (disch := omega) only [m_ofS, m_puts, Option.bind_some, gwi_eq, e]
theorem qGo_2 {s p k : Int} (hs : 0 ≤ s) : (qGo r s p k) 2 = r 2 := by
  unfold qGo
  simp (disch := omega) only [rss_lo]
theorem m_ex {p h k : Int} (h2 : 0 ≤ r 2 ∧ r 2 ≤ 12) (hh : h = -1 ∨ (0 ≤ h ∧ h < r 2)) (hc : ∀ s : Int, 0 ≤ s → s < r 2 → 0 ≤ rs r s 4 ∧ rs r s 4 ≤ 1000000000) (hd : qOnSlot r k = -1 ∨ ¬ h = qOnSlot r k) : fX9_exchanges g a p h k (mrow M (a + 1) r) = some (mrow M (a + 1) (qEx r p h k)) := by
  unfold fX9_exchanges qEx qEx1
  rw [m_onSlot h2, Option.bind_some]
  have q := qSlot_in h2.1 k
  generalize qOnSlot r k = o at q hd ⊢
  unfold fX9_exchanges_19
  have step : ∀ r1 : gRow, (0 ≤ o ∧ o < r 2 → 0 ≤ rs r1 o 4 ∧ rs r1 o 4 ≤ 2000000000) → (if o = (-1) then (some (mrow M (a + 1) r1)) else ((fX9_goes g a o p ((-1)) (mrow M (a + 1) r1)).bind fun M_3 => some M_3)) = some (mrow M (a + 1) (if o = -1 then r1 else qGo r1 o p (-1))) := by
    intro r1 hr1
    by_cases ho : o = -1
    · rw [if_pos ho, if_pos ho]
    · rw [if_neg ho, if_neg ho]
      have hb : 0 ≤ o ∧ o < r 2 := by rcases q with q | q; exact absurd q ho; exact q.1
      rw [m_goes (by omega) (hr1 hb), Option.bind_some]
  rcases hh with hh | hh
  · rw [if_pos hh, if_pos hh, step r (fun hb => by have := hc o hb.1 hb.2; omega)]
  · have hg : 0 ≤ o ∧ o < r 2 → 0 ≤ rs (qGo r h (-1) k) o 4 ∧ rs (qGo r h (-1) k) o 4 ≤ 2000000000 := by
      intro hbb
      have hne : ¬ h = o := by rcases hd with hd | hd; omega; exact hd
      have hq := hc o hbb.1 hbb.2
      unfold qGo
      simp (disch := omega) only [rs_rss_ne]
      omega
    have hq := hc h hh.1 hh.2
    have hn1 : ¬ h = -1 := by omega
    have hG : fX9_goes g a h (-1) k (mrow M (a + 1) r) = some (mrow M (a + 1) (qGo r h (-1) k)) := m_goes (by omega) (by omega)
    simp only [if_neg hn1, hG, Option.bind_some]
    exact step _ hg
theorem qSh_rp {p : Int} (hp : 0 ≤ p) : ∀ (n : Nat) (r : gRow), n ≤ 19 → ∀ (p' k : Int), 0 ≤ p' → 0 ≤ k → k < 86 → rp (qSh p n r) p' k = if p' = p ∧ 67 ≤ k ∧ k ≤ 66 + n then rp r p (k - 1) else rp r p' k := by
  intro n
  induction n with
  | zero => intro r _ p' k h1 h2 h3; unfold qSh; rw [if_neg (by omega)]
  | succ n ih =>
    intro r hn p' k h1 h2 h3
    unfold qSh
    rw [ih _ (by omega) p' k h1 h2 h3]
    by_cases hc : p' = p ∧ 67 ≤ k ∧ k ≤ 66 + (n : Int)
    · rw [if_pos hc, if_pos (by omega)]
      simp (disch := omega) only [rp_rsp_ne]
    · rw [if_neg hc]
      by_cases he : p' = p ∧ k = 66 + ((n : Int) + 1)
      · rw [if_pos (by omega), he.1, he.2, rp_rsp_eq]
        have : 66 + ((n : Int) + 1) - 1 = 66 + n := by omega
        rw [this]
      · rw [if_neg (by omega)]
        simp (disch := omega) only [rp_rsp_ne]
theorem qSh_off {p : Int} (hp : 0 ≤ p) : ∀ (n : Nat) (r : gRow), n ≤ 19 → ∀ j : Nat, ¬ ((6 + 86 * p + 67).toNat ≤ j ∧ j ≤ (6 + 86 * p + 85).toNat) → qSh p n r j = r j := by
  intro n
  induction n with
  | zero => intro r _ j _; rfl
  | succ n ih =>
    intro r hn j hj
    unfold qSh
    rw [ih _ (by omega) j hj]
    exact rup_miss (by omega)
theorem m_say_lp {p v : Int} (hp : 0 ≤ p ∧ p < 8) : ∀ (n : Nat) (r : gRow) (fu : Nat), n ≤ 19 → (0 ≤ rp r p 9 ∧ rp r p 9 ≤ 2000000000) → n < fu → fX9_saysNumberOf_3 g fu a p v (n : Int) (mrow M (a + 1) r) = some (mrow M (a + 1) (qSay2 (qSay1 (qSh p n r) p v) p)) := by
  intro n
  induction n with
  | zero =>
    intro r fu hn h9 hf
    obtain ⟨fu, rfl⟩ := fuS hf
    unfold fX9_saysNumberOf_3 qSay2 qSay1 qSh
    have e : rp (rsp r p 66 v) p 9 = rp r p 9 := rp_rsp_ne (by omega) (by omega) (by omega) (by omega) (by omega)
    simp (disch := omega) only [m_of, m_sets, Option.bind_some, gwi_eq, e, if_pos]
  | succ n ih =>
    intro r fu hn h9 hf
    obtain ⟨fu, rfl⟩ := fuS hf
    unfold fX9_saysNumberOf_3 qSh
    have e1 : (66 : Int) + ((n + 1 : Nat) : Int) - 1 = 66 + n := by omega
    have e2 : (((n + 1 : Nat) : Int) + (-1)) = n := by omega
    have e3 : (66 : Int) + ((n + 1 : Nat) : Int) = 66 + (n + 1) := by omega
    have e4 : (66 : Int) + ((n : Int) + 1) - 1 = 66 + n := by omega
    rw [if_neg (by omega)]
    simp (disch := omega) only [m_of, m_sets, Option.bind_some, gwi_eq, gst_eq, e2, e3, e4]
    refine ih _ fu (by omega) ?_ (by omega)
    simp (disch := omega) only [rp_rsp_ne]
    exact h9
theorem m_say {p v : Int} (hp : 0 ≤ p ∧ p < 8) (h9 : 0 ≤ rp r p 9 ∧ rp r p 9 ≤ 2000000000) : fX9_saysNumberOf g a p v (mrow M (a + 1) r) = some (mrow M (a + 1) (qSay r p v)) := by
  unfold fX9_saysNumberOf qSay
  exact m_say_lp hp 19 r gF (by omega) h9 (by unfold gF; omega)
end MUpd
