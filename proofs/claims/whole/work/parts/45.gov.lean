/-! PURE: what a command neither reads nor writes passes it by -/
def gov (S : Nat → Bool) (t r : gRow) : gRow := fun j => if S j = true then t j else r j
/-- places a command has nothing to do with -/
def gS1 (S : Nat → Bool) : Prop := ∀ j : Nat, S j = true → j = 5 ∨ 1030 ≤ j ∨ ∃ q : Nat, q < 8 ∧ 10 + 86 * q ≤ j ∧ j ≤ 14 + 86 * q
/-- places a step has nothing to do with -/
def gS2 (S : Nat → Bool) : Prop := ∀ j : Nat, S j = true → ∃ q : Nat, q < 8 ∧ (j = 10 + 86 * q ∨ j = 12 + 86 * q)
theorem gS2.s1 {S : Nat → Bool} (h : gS2 S) : gS1 S := fun j hj => by
  obtain ⟨q, q1, q2⟩ := h j hj
  exact Or.inr (Or.inr ⟨q, q1, by omega, by omega⟩)
section Gov
variable {S : Nat → Bool} {t r : gRow} {K : Int}
theorem gov_t {j : Nat} (h : S j = true) : gov S t r j = t j := if_pos h
theorem gov_f {j : Nat} (h : ¬ S j = true) : gov S t r j = r j := if_neg h
theorem gov_self : gov S r r = r := by
  funext j
  unfold gov
  split <;> rfl
theorem rup_gov {i v : Int} (h : ¬ S i.toNat = true) : rup (gov S t r) i v = gov S t (rup r i v) := by
  funext j
  show (if j = i.toNat then v else (if S j = true then t j else r j)) = (if S j = true then t j else (if j = i.toNat then v else r j))
  by_cases e : j = i.toNat
  · rw [if_pos e, if_neg (by rw [e]; exact h), if_pos e]
  · rw [if_neg e]
    by_cases e2 : S j = true
    · rw [if_pos e2, if_pos e2]
    · rw [if_neg e2, if_neg e2, if_neg e]
theorem gS1.p (h : gS1 S) {p k : Int} (hp : 0 ≤ p) (hp8 : p < 8) (hk : 0 ≤ k ∧ k < 86) (hk2 : k < 4 ∨ 8 < k) : ¬ S (6 + 86 * p + k).toNat = true := by
  intro hs
  rcases h _ hs with q | q | ⟨q, q1, q2, q3⟩ <;> omega
theorem gS1.s (h : gS1 S) {s k : Int} (hs : 0 ≤ s) (hs12 : s < 12) (hk : 0 ≤ k ∧ k < 21) : ¬ S (694 + 21 * s + k).toNat = true := by
  intro hs
  rcases h _ hs with q | q | ⟨q, q1, q2, q3⟩ <;> omega
theorem gS1.l (h : gS1 S) {j : Nat} (hj : j < 5) : ¬ S j = true := by
  intro hs
  rcases h _ hs with q | q | ⟨q, q1, q2, q3⟩ <;> omega
theorem gS2.p (h : gS2 S) {p k : Int} (hp : 0 ≤ p) (hp8 : p < 8) (hk : 0 ≤ k ∧ k < 86) (hk2 : ¬ k = 4 ∧ ¬ k = 6) : ¬ S (6 + 86 * p + k).toNat = true := by
  intro hs
  obtain ⟨q, q1, q2⟩ := h _ hs
  omega
theorem gS2.o (h : gS2 S) {j : Nat} (hj : j < 6 ∨ 694 ≤ j) : ¬ S j = true := by
  intro hs
  obtain ⟨q, q1, q2⟩ := h _ hs
  omega
theorem rp_gov {p k : Int} (h : ¬ S (6 + 86 * p + k).toNat = true) : rp (gov S t r) p k = rp r p k := gov_f h
theorem rs_gov {s k : Int} (h : ¬ S (694 + 21 * s + k).toNat = true) : rs (gov S t r) s k = rs r s k := gov_f h
theorem qInHand_gov (h : gS1 S) (h2 : r 2 ≤ 12) {p : Int} : qInHand (gov S t r) p = qInHand r p := qInHand_congr (gov_f (h.l (by omega))) (fun s q1 q2 => rs_gov (h.s q1 (by omega) (by omega)))
theorem qOnSlot_gov (h : gS1 S) (h2 : r 2 ≤ 12) {p : Int} : qOnSlot (gov S t r) p = qOnSlot r p := qOnSlot_congr (gov_f (h.l (by omega))) (fun s q1 q2 => rs_gov (h.s q1 (by omega) (by omega)))
theorem qPop_gov (h : gS1 S) {s : Int} (hs : 0 ≤ s ∧ s < 12) : qPop (gov S t r) s = gov S t (qPop r s) := by
  unfold qPop rss
  rw [rs_gov (h.s hs.1 hs.2 (by omega)), rup_gov (h.s hs.1 hs.2 (by omega))]
theorem qPush_gov (h : gS1 S) {s v : Int} (hs : 0 ≤ s ∧ s < 12) (h1 : 0 ≤ rs r s 1 ∧ rs r s 1 ≤ 15) : qPush (gov S t r) s v = gov S t (qPush r s v) := by
  unfold qPush rss
  rw [rs_gov (h.s hs.1 hs.2 (by omega)), rup_gov (h.s hs.1 hs.2 (by omega)), rup_gov (h.s hs.1 hs.2 (by omega))]
theorem qGo_gov (h : gS1 S) {s p k : Int} (hs : 0 ≤ s ∧ s < 12) : qGo (gov S t r) s p k = gov S t (qGo r s p k) := by
  unfold qGo rss
  rw [rs_gov (h.s hs.1 hs.2 (by omega)), rup_gov (h.s hs.1 hs.2 (by omega)), rup_gov (h.s hs.1 hs.2 (by omega)), rup_gov (h.s hs.1 hs.2 (by omega))]
theorem qEx_gov (h : gS1 S) (h2 : 0 ≤ r 2 ∧ r 2 ≤ 12) {p k hh : Int} (hh2 : hh = -1 ∨ (0 ≤ hh ∧ hh < 12)) : qEx (gov S t r) p hh k = gov S t (qEx r p hh k) := by
  have ho := qSlot_in h2.1 (r := r) k
  unfold qEx qEx1
  rw [qOnSlot_gov h h2.2]
  generalize qOnSlot r k = o at ho ⊢
  have e1 : (if hh = -1 then gov S t r else qGo (gov S t r) hh (-1) k) = gov S t (if hh = -1 then r else qGo r hh (-1) k) := by
    by_cases e : hh = -1
    · rw [if_pos e, if_pos e]
    · rw [if_neg e, if_neg e, qGo_gov h (by omega)]
  rw [e1]
  by_cases e : o = -1
  · rw [if_pos e, if_pos e]
  · rw [if_neg e, if_neg e, qGo_gov h (by omega)]
theorem qSh_gov (h : gS1 S) {p : Int} (hp : 0 ≤ p ∧ p < 8) : ∀ (n : Nat) (r : gRow), n ≤ 19 → qSh p n (gov S t r) = gov S t (qSh p n r) := by
  intro n
  induction n with
  | zero => intro r _; rfl
  | succ n ih =>
    intro r hn
    unfold qSh rsp
    rw [rp_gov (h.p hp.1 hp.2 (by omega) (by omega)), rup_gov (h.p hp.1 hp.2 (by omega) (by omega)), ih _ (by omega)]
theorem qSay_gov (h : gS1 S) {p v : Int} (hp : 0 ≤ p ∧ p < 8) : qSay (gov S t r) p v = gov S t (qSay r p v) := by
  unfold qSay qSay1 qSay2 rsp
  rw [qSh_gov h hp 19 r (by omega), rup_gov (h.p hp.1 hp.2 (by omega) (by omega)), rp_gov (h.p hp.1 hp.2 (by omega) (by omega)), rup_gov (h.p hp.1 hp.2 (by omega) (by omega))]
theorem qNum_gov (h : gS1 S) {s d : Int} (hs : 0 ≤ s ∧ s < 12) (h1 : 0 ≤ rs r s 1 ∧ rs r s 1 ≤ 16) (hd : 0 ≤ d ∧ d ≤ 1) : qNum (gov S t r) s d = qNum r s d := by
  unfold qNum
  rw [show rs (gov S t r) s 1 = rs r s 1 from rs_gov (h.s hs.1 hs.2 (by omega)), rs_gov (h.s hs.1 hs.2 (by omega))]
theorem qRes_gov (h : gS1 S) {s c : Int} (hs : 0 ≤ s ∧ s < 12) (h1 : 0 ≤ rs r s 1 ∧ rs r s 1 ≤ 16) : qRes (gov S t r) s c = qRes r s c := by
  unfold qRes
  rw [qNum_gov h hs h1 (by omega), qNum_gov h hs h1 (by omega)]
theorem qDoes_gov (h : gS1 S) (hO : qOK r K) {p c v : Int} (hp : 0 ≤ p ∧ p < r 1) (hC : qCan r p c v) : qDoes (gov S t r) p c v = gov S t (qDoes r p c v) := by
  have h1 := hO.2.1
  have h2 := hO.2.2.1
  have hp8 : 0 ≤ p ∧ p < 8 := by omega
  obtain ⟨hc, hA, hB, hJ, hv⟩ := hC
  unfold qDoes
  rw [qInHand_gov h h2.2]
  by_cases c7 : c ≤ 7 ∨ c = 12
  · obtain ⟨hh, hn, hf, hr⟩ := hA c7
    have hst := hO.st hh
    have hb := (hO.2.2.2.2.2.2.2 _ hh.1 hh.2).1.2
    have hl := hst.2.1
    have e1 : rs (qPop r (qInHand r p)) (qInHand r p) 1 = rs r (qInHand r p) 1 - 1 := rs_rss_eq
    have e2 : rs (qPop (qPop r (qInHand r p)) (qInHand r p)) (qInHand r p) 1 = rs (qPop r (qInHand r p)) (qInHand r p) 1 - 1 := rs_rss_eq
    have e3 : ∀ x : Int, rs (qPush (qPop (qPop r (qInHand r p)) (qInHand r p)) (qInHand r p) x) (qInHand r p) 1 = rs (qPop (qPop r (qInHand r p)) (qInHand r p)) (qInHand r p) 1 + 1 := fun x => rs_rss_eq
    have hnn : c = 3 ∨ 4 ≤ c ∧ c ≤ 6 → qNeed c = 2 := by intro h; unfold qNeed; rw [if_neg (by omega), if_pos (by omega)]
    have n0 := qNum_gov (t := t) (d := 0) h hst.1 hl (by omega)
    have n1 := qNum_gov (t := t) (d := 1) h hst.1 hl (by omega)
    have nr := qRes_gov (t := t) (c := c) h hst.1 hl
    generalize qInHand r p = w at *
    by_cases c0 : c = 0
    · have := hf (by omega)
      rw [if_pos c0, if_pos c0, qPush_gov h hst.1 (by omega)]
    rw [if_neg c0, if_neg c0]
    by_cases c1 : c = 1
    · rw [if_pos c1, if_pos c1, qPop_gov h hst.1]
    rw [if_neg c1, if_neg c1]
    by_cases c2 : c = 2
    · have := hf (by omega)
      rw [if_pos c2, if_pos c2, n0, qPush_gov h hst.1 (by omega)]
    rw [if_neg c2, if_neg c2]
    by_cases c3 : c = 3
    · have := hnn (by omega)
      have e3' := e3 (qNum r w 0)
      rw [if_pos c3, if_pos c3, n0, n1, qPop_gov h hst.1, qPop_gov h hst.1, qPush_gov h hst.1 (by omega), qPush_gov h hst.1 (by omega)]
    rw [if_neg c3, if_neg c3]
    by_cases c4 : 4 ≤ c ∧ c ≤ 6
    · have := hnn (by omega)
      rw [if_pos c4, if_pos c4, nr, qPop_gov h hst.1, qPop_gov h hst.1, qPush_gov h hst.1 (by omega)]
    rw [if_neg c4, if_neg c4]
    by_cases c7' : c = 7
    · rw [if_pos c7', if_pos c7', n0, qSay_gov h hp8, qPop_gov h hst.1]
    have c12 : c = 12 := by omega
    simp (disch := omega) only [if_pos, if_neg]
    rw [n0]
    by_cases hz : qNum r w 0 = 0
    · have : rsp (gov S t r) p 2 v = gov S t (rsp r p 2 v) := rup_gov (h.p hp8.1 hp8.2 (by omega) (by omega))
      rw [if_pos hz, if_pos hz, this, qPop_gov h hst.1]
    · rw [if_neg hz, if_neg hz, qPop_gov h hst.1]
  · have hh := qHand_in h2.1 (r := r) p
    by_cases c8 : 8 ≤ c ∧ c ≤ 10
    · simp (disch := omega) only [if_pos, if_neg]
      exact qEx_gov h h2 (by omega)
    by_cases c11 : c = 11
    · simp (disch := omega) only [if_pos, if_neg]
      exact rup_gov (h.p hp8.1 hp8.2 (by omega) (by omega))
    have c13 : c = 13 := by omega
    simp (disch := omega) only [if_neg]
    unfold rsp
    rw [rp_gov (h.p hp8.1 hp8.2 (by omega) (by omega)), rup_gov (h.p hp8.1 hp8.2 (by omega) (by omega)), rup_gov (h.p hp8.1 hp8.2 (by omega) (by omega))]
/-- so those places stay as they are -/
theorem qDoes_off (hO : qOK r K) {p c v : Int} (hp : 0 ≤ p ∧ p < r 1) (hC : qCan r p c v) (h : gS1 S) {j : Nat} (hj : S j = true) : (qDoes r p c v) j = r j := by
  have := qDoes_gov (t := r) h hO hp hC
  rw [gov_self] at this
  rw [this]
  exact gov_t hj
theorem rup_congr {a b : gRow} {i v : Int} {j : Nat} (h : a j = b j) : rup a i v j = rup b i v j := by
  unfold rup
  split
  · rfl
  · exact h
theorem qTr_dep {a b : gRow} {p x y : Int} (h5 : 0 ≤ a 5 ∧ a 5 ≤ 40) (e5 : a 5 = b 5) (e3 : a 3 = b 3) (eh : ∀ j : Nat, 1030 ≤ j → a j = b j) (j : Nat) (hj : j = 5 ∨ 1030 ≤ j) : qTr a p x y j = qTr b p x y j := by
  have T1 : ∀ a b : gRow, a 5 = b 5 → a 3 = b 3 → a j = b j → qTr1 a p x y j = qTr1 b p x y j := by
    intro a b e5 e3 ej
    unfold qTr1
    rw [e5, e3]
    exact rup_congr (rup_congr (rup_congr (rup_congr (rup_congr ej))))
  have eTS : ∀ r : gRow, ∀ j : Nat, j < 1030 → qTS 156 1030 r j = r j := fun r j q => by rw [qTS_at _ _ _ (by omega), if_neg (by omega)]
  have t5 : ∀ r : gRow, r 5 = 40 → qTr0 r 5 = 39 := fun r q => by unfold qTr0; rw [rup_hit (by rfl), eTS r 5 (by omega), q]; rfl
  have t3 : ∀ r : gRow, qTr0 r 3 = r 3 := fun r => by unfold qTr0; rw [rup_miss (by omega), eTS r 3 (by omega)]
  unfold qTr
  rw [← e5]
  by_cases h : a 5 = 40
  · rw [if_pos h, if_pos h]
    refine T1 _ _ (by rw [t5 a h, t5 b (by omega)]) (by rw [t3, t3, e3]) ?_
    rcases hj with q | q
    · rw [q, t5 a h, t5 b (by omega)]
    · unfold qTr0
      rw [rup_miss (by omega), rup_miss (by omega), qTS_at _ _ _ (by omega), qTS_at _ _ _ (by omega)]
      by_cases e : (1030 : Int).toNat ≤ j ∧ j < (1030 : Int).toNat + 156
      · rw [if_pos e, if_pos e]; exact eh _ (by omega)
      · rw [if_neg e, if_neg e]; exact eh _ q
  · rw [if_neg h, if_neg h]
    refine T1 a b e5 e3 ?_
    rcases hj with q | q
    · rw [q]; exact e5
    · exact eh j q
def gST' : Nat → Bool := fun j => decide (j = 5 ∨ 1030 ≤ j)
theorem gST'.s1 : gS1 gST' := fun j hj => by
  have := of_decide_eq_true hj
  rcases this with q | q
  · exact Or.inl q
  · exact Or.inr (Or.inl q)
theorem qTr_gov {p x y : Int} (h5 : 0 ≤ r 5 ∧ r 5 ≤ 40) : qTr r p x y = gov gST' (qTr r p x y) r := by
  funext j
  by_cases h : gST' j = true
  · rw [gov_t h]
  · rw [gov_f h]
    have : ¬ (j = 5 ∨ 1030 ≤ j) := fun z => h (decide_eq_true z)
    exact qTr_off h5 j (by omega) (by omega)
/-- tracing may come behind what neither reads nor writes there -/
theorem qTr_late {a b : gRow} {p x y : Int} (h5 : 0 ≤ a 5 ∧ a 5 ≤ 40) (e5 : a 5 = b 5) (e3 : a 3 = b 3) (eh : ∀ j : Nat, 1030 ≤ j → a j = b j) : qTr b p x y = gov gST' (qTr a p x y) b := by
  rw [qTr_gov (r := b) (by omega)]
  funext j
  unfold gov
  by_cases h : gST' j = true
  · rw [if_pos h, if_pos h]
    exact (qTr_dep h5 e5 e3 eh j (of_decide_eq_true h)).symm
  · rw [if_neg h, if_neg h]
end Gov
