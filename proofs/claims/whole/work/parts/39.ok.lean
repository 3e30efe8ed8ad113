/-! PURE: the bounds of a row outlast a command -/
section OK1
variable {r r' : gRow} {K K' : Int}
theorem qOKp.congr {p : Int} (h : qOKp r K p) (hK : K ≤ K') (h0 : r' 0 = r 0) (hr : ∀ k : Int, 0 ≤ k → k < 86 → rp r' p k = rp r p k) : qOKp r' K' p := by
  unfold qOKp at h ⊢
  rw [h0, hr 0 (by omega) (by omega), hr 1 (by omega) (by omega), hr 2 (by omega) (by omega), hr 3 (by omega) (by omega), hr 4 (by omega) (by omega), hr 5 (by omega) (by omega), hr 6 (by omega) (by omega), hr 7 (by omega) (by omega), hr 8 (by omega) (by omega), hr 9 (by omega) (by omega)]
  obtain ⟨a0, a1, a2, a3, a4, a5, a6, a7, a8, a9, a10⟩ := h
  refine ⟨a0, a1, a2, a3, a4, a5, by omega, by omega, by omega, by omega, fun k q1 q2 => ?_⟩
  rw [hr _ (by omega) (by omega), hr _ (by omega) (by omega)]
  exact a10 k q1 q2
theorem qOKs.congr {s : Int} (hs : 0 ≤ s ∧ s < r 2) (h : qOKs r K s) (hK : K ≤ K') (h0 : r' 0 = r 0) (h1 : r' 1 = r 1) (h2 : r' 2 = r 2) (hr : ∀ s k : Int, 0 ≤ s → s < r 2 → 0 ≤ k → k < 21 → rs r' s k = rs r s k) : qOKs r' K' s := by
  unfold qOKs at h ⊢
  rw [h0, h1, h2, hr s 0 hs.1 hs.2 (by omega) (by omega), hr s 1 hs.1 hs.2 (by omega) (by omega), hr s 2 hs.1 hs.2 (by omega) (by omega), hr s 3 hs.1 hs.2 (by omega) (by omega), hr s 4 hs.1 hs.2 (by omega) (by omega)]
  obtain ⟨a0, a1, a2, a3, a4, a5, a6, a7⟩ := h
  refine ⟨a0, a1, a2, a3, a4, by omega, fun k q1 q2 => ?_, fun s' q1 q2 q3 => ?_⟩
  · rw [hr _ _ hs.1 hs.2 (by omega) (by omega)]; exact a6 k q1 q2
  · rw [hr _ _ q1 q2 (by omega) (by omega), hr _ _ q1 q2 (by omega) (by omega)]; exact a7 s' q1 q2 q3
theorem qOK.procs (hO : qOK r K) (hK : K ≤ K') (hlo : ∀ j : Nat, j < 6 → r' j = r j) (hr : ∀ s k : Int, 0 ≤ s → s < r 2 → 0 ≤ k → k < 21 → rs r' s k = rs r s k) (hp : ∀ p : Int, 0 ≤ p → p < r 1 → qOKp r' K' p) : qOK r' K' := by
  obtain ⟨a0, a1, a2, a3, a4, a5, a6, a7⟩ := hO
  unfold qOK
  rw [hlo 0 (by omega), hlo 1 (by omega), hlo 2 (by omega), hlo 3 (by omega), hlo 4 (by omega), hlo 5 (by omega)]
  exact ⟨a0, a1, a2, by omega, a4, a5, hp, fun s q1 q2 => (a7 s q1 q2).congr ⟨q1, q2⟩ hK (hlo 0 (by omega)) (hlo 1 (by omega)) (hlo 2 (by omega)) hr⟩
theorem qOK.stacks (hO : qOK r K) (hK : K ≤ K') (hlo : ∀ j : Nat, j < 694 → r' j = r j) (hs : ∀ s : Int, 0 ≤ s → s < r 2 → qOKs r' K' s) : qOK r' K' := by
  obtain ⟨a0, a1, a2, a3, a4, a5, a6, a7⟩ := hO
  unfold qOK
  rw [hlo 0 (by omega), hlo 1 (by omega), hlo 2 (by omega), hlo 3 (by omega), hlo 4 (by omega), hlo 5 (by omega)]
  exact ⟨a0, a1, a2, by omega, a4, a5, fun p q1 q2 => (a6 p q1 q2).congr hK (hlo 0 (by omega)) (fun k q3 q4 => hlo _ (by omega)), hs⟩
theorem qOK.tr (hO : qOK r K) (hK : K ≤ K') (h0 : r' 0 = r 0) (h1 : r' 1 = r 1) (h2 : r' 2 = r 2) (h3 : 0 ≤ r' 3 ∧ r' 3 ≤ K') (h4 : -1 ≤ r' 4 ∧ r' 4 < r 1) (h5 : 0 ≤ r' 5 ∧ r' 5 ≤ 40) (hlo : ∀ j : Nat, 6 ≤ j → j < 946 → r' j = r j) : qOK r' K' := by
  obtain ⟨a0, a1, a2, a3, a4, a5, a6, a7⟩ := hO
  unfold qOK
  rw [h0, h1, h2]
  exact ⟨a0, a1, a2, h3, h4, h5, fun p q1 q2 => (a6 p q1 q2).congr hK h0 (fun k q3 q4 => hlo _ (by omega) (by omega)), fun s q1 q2 => (a7 s q1 q2).congr ⟨q1, q2⟩ hK h0 h1 h2 (fun s k q3 q4 q5 q6 => hlo _ (by omega) (by omega))⟩
theorem qOK.mono (hO : qOK r K) (hK : K ≤ K') : qOK r K' := hO.procs hK (fun _ _ => rfl) (fun _ _ _ _ _ _ => rfl) (fun p q1 q2 => (hO.2.2.2.2.2.2.1 p q1 q2).congr hK rfl (fun _ _ _ => rfl))
/-- what may be written at k of a process -/
def qVal (K k v : Int) : Prop := (0 ≤ k ∧ k ≤ 9 ∧ k ≠ 3) ∧ (k = 0 → 0 ≤ v ∧ v ≤ 2) ∧ (k = 1 → 0 ≤ v ∧ v ≤ 6) ∧ (k = 2 → 0 ≤ v ∧ v ≤ 24) ∧ (k = 4 → 1 ≤ v ∧ v ≤ 9) ∧ (k = 5 → 0 ≤ v ∧ v ≤ 15) ∧ (6 ≤ k → 0 ≤ v ∧ v ≤ K)
theorem qOKp_rsp {p k v : Int} (h : qOKp r K p) (hK : K ≤ K') (hp : 0 ≤ p) (hv : qVal K' k v) : qOKp (rsp r p k v) K' p := by
  have hk := hv.1
  have key : ∀ k' : Int, 0 ≤ k' → k' < 86 → rp (rsp r p k v) p k' = if k' = k then v else rp r p k' := by
    intro k' q1 q2
    by_cases e : k' = k
    · rw [if_pos e, e, rp_rsp_eq]
    · rw [if_neg e]
      simp (disch := omega) only [rp_rsp_ne]
  have e0 : (rsp r p k v) 0 = r 0 := rsp_lo (by omega) (by omega) (by omega)
  obtain ⟨a0, a1, a2, a3, a4, a5, a6, a7, a8, a9, a10⟩ := h
  obtain ⟨-, v0, v1, v2, v4, v5, v6⟩ := hv
  have e3 : rp (rsp r p k v) p 3 = rp r p 3 := by rw [key 3 (by omega) (by omega), if_neg (by omega)]
  unfold qOKp
  rw [e0, e3]
  refine ⟨?_, ?_, ?_, a3, ?_, ?_, ?_, ?_, ?_, ?_, fun k' q1 q2 => ?_⟩
  · rw [key 0 (by omega) (by omega)]; split <;> omega
  · rw [key 1 (by omega) (by omega)]; split <;> omega
  · rw [key 2 (by omega) (by omega)]; split <;> omega
  · rw [key 4 (by omega) (by omega)]; split <;> omega
  · rw [key 5 (by omega) (by omega)]; split <;> omega
  · rw [key 6 (by omega) (by omega)]; split <;> omega
  · rw [key 7 (by omega) (by omega)]; split <;> omega
  · rw [key 8 (by omega) (by omega)]; split <;> omega
  · rw [key 9 (by omega) (by omega)]; split <;> omega
  · rw [key _ (by omega) (by omega), key _ (by omega) (by omega), if_neg (by omega), if_neg (by omega)]
    exact a10 k' q1 q2
theorem qOK_rsp {p k v : Int} (hO : qOK r K) (hK : K ≤ K') (hp : 0 ≤ p ∧ p < r 1) (hv : qVal K' k v) : qOK (rsp r p k v) K' := by
  have h1 := hO.2.1
  have h2 := hO.2.2.1
  have hk := hv.1
  refine hO.procs hK (fun j hj => rsp_lo (by omega) (by omega) hj) (fun s k q1 q2 q3 q4 => rs_rsp (by omega) q1 (by omega) q3) (fun q q1 q2 => ?_)
  by_cases e : q = p
  · rw [e]; exact qOKp_rsp (hO.2.2.2.2.2.2.1 p hp.1 hp.2) hK hp.1 hv
  · refine (hO.2.2.2.2.2.2.1 q q1 q2).congr hK (rsp_lo (by omega) (by omega) (by omega)) (fun k' q3 q4 => ?_)
    simp (disch := omega) only [rp_rsp_ne]
/-- a stack's numbers change, its place doesn't -/
theorem qOK.nums {s : Int} (hO : qOK r K) (hs : 0 ≤ s ∧ s < r 2) (hlo : ∀ j : Nat, j < 694 → r' j = r j) (ho : ∀ s' k : Int, 0 ≤ s' → s' < r 2 → ¬ s' = s → 0 ≤ k → k < 21 → rs r' s' k = rs r s' k)
    (e0 : rs r' s 0 = rs r s 0) (e2 : rs r' s 2 = rs r s 2) (e3 : rs r' s 3 = rs r s 3) (e4 : rs r' s 4 = rs r s 4) (h1 : 0 ≤ rs r' s 1 ∧ rs r' s 1 ≤ rs r s 0) (hn : ∀ k : Int, 0 ≤ k → k < rs r' s 1 → -999999 ≤ rs r' s (5 + k) ∧ rs r' s (5 + k) ≤ 999999) : qOK r' K := by
  have e2' : ∀ s' : Int, 0 ≤ s' → s' < r 2 → rs r' s' 2 = rs r s' 2 := fun s' q1 q2 => by
    by_cases e : s' = s
    · rw [e]; exact e2
    · exact ho s' 2 q1 q2 e (by omega) (by omega)
  have e3' : ∀ s' : Int, 0 ≤ s' → s' < r 2 → rs r' s' 3 = rs r s' 3 := fun s' q1 q2 => by
    by_cases e : s' = s
    · rw [e]; exact e3
    · exact ho s' 3 q1 q2 e (by omega) (by omega)
  refine hO.stacks (Int.le_refl K) hlo (fun t q1 q2 => ?_)
  obtain ⟨a0, a1, a2, a3, a4, a5, a6, a7⟩ := hO.2.2.2.2.2.2.2 t q1 q2
  have hl : rs r' t 0 = rs r t 0 ∧ rs r' t 4 = rs r t 4 := by
    by_cases e : t = s
    · rw [e]; exact ⟨e0, e4⟩
    · exact ⟨ho t 0 q1 q2 e (by omega) (by omega), ho t 4 q1 q2 e (by omega) (by omega)⟩
  unfold qOKs
  rw [hlo 0 (by omega), hlo 1 (by omega), hlo 2 (by omega), e2' t q1 q2, e3' t q1 q2, hl.1, hl.2]
  refine ⟨a0, ?_, a2, a3, a4, a5, ?_, fun s' q3 q4 q5 => by rw [e2' s' q3 q4, e3' s' q3 q4]; exact a7 s' q3 q4 q5⟩
  · by_cases e : t = s
    · rw [e]; exact h1
    · rw [ho t 1 q1 q2 e (by omega) (by omega)]; exact a1
  · intro k q3 q4
    by_cases e : t = s
    · rw [e] at q4 ⊢; exact hn k q3 q4
    · rw [ho t 1 q1 q2 e (by omega) (by omega)] at q4
      rw [ho t _ q1 q2 e (by omega) (by omega)]; exact a6 k q3 q4
theorem qOK_pop {s : Int} (hO : qOK r K) (hs : 0 ≤ s ∧ s < r 2) (h1 : 1 ≤ rs r s 1) : qOK (qPop r s) K := by
  have h2 := hO.2.2.1
  obtain ⟨a0, a1, a2, a3, a4, a5, a6, a7⟩ := hO.2.2.2.2.2.2.2 s hs.1 hs.2
  have e1 : rs (qPop r s) s 1 = rs r s 1 - 1 := rs_rss_eq
  have key : ∀ s' k : Int, 0 ≤ s' → 0 ≤ k → k < 21 → ¬ (s' = s ∧ k = 1) → rs (qPop r s) s' k = rs r s' k := by
    intro s' k q1 q2 q3 q4
    unfold qPop
    simp (disch := omega) only [rs_rss_ne]
  refine hO.nums hs (fun j hj => rss_lo hs.1 (by omega) hj) (fun s' k q1 q2 q3 q4 q5 => key s' k q1 q4 q5 (by omega)) (key s 0 hs.1 (by omega) (by omega) (by omega)) (key s 2 hs.1 (by omega) (by omega) (by omega)) (key s 3 hs.1 (by omega) (by omega) (by omega)) (key s 4 hs.1 (by omega) (by omega) (by omega)) (by rw [e1]; omega) (fun k q1 q2 => ?_)
  rw [e1] at q2
  rw [key s _ hs.1 (by omega) (by omega) (by omega)]
  exact a6 k q1 (by omega)
theorem qOK_push {s v : Int} (hO : qOK r K) (hs : 0 ≤ s ∧ s < r 2) (h1 : rs r s 1 < rs r s 0) (hv : -999999 ≤ v ∧ v ≤ 999999) : qOK (qPush r s v) K := by
  have h2 := hO.2.2.1
  obtain ⟨a0, a1, a2, a3, a4, a5, a6, a7⟩ := hO.2.2.2.2.2.2.2 s hs.1 hs.2
  have e1 : rs (qPush r s v) s 1 = rs r s 1 + 1 := rs_rss_eq
  have key : ∀ s' k : Int, 0 ≤ s' → 0 ≤ k → k < 21 → ¬ (s' = s ∧ k = 1) → rs (qPush r s v) s' k = if s' = s ∧ k = 5 + rs r s 1 then v else rs r s' k := by
    intro s' k q1 q2 q3 q4
    unfold qPush
    by_cases e : s' = s ∧ k = 5 + rs r s 1
    · rw [if_pos e, e.1, e.2]
      simp (disch := omega) only [rs_rss_ne, rs_rss_eq]
    · rw [if_neg e]
      simp (disch := omega) only [rs_rss_ne]
  refine hO.nums hs (fun j hj => ?_) (fun s' k q1 q2 q3 q4 q5 => by rw [key s' k q1 q4 q5 (by omega), if_neg (by omega)]) (by rw [key s 0 hs.1 (by omega) (by omega) (by omega), if_neg (by omega)]) (by rw [key s 2 hs.1 (by omega) (by omega) (by omega), if_neg (by omega)]) (by rw [key s 3 hs.1 (by omega) (by omega) (by omega), if_neg (by omega)]) (by rw [key s 4 hs.1 (by omega) (by omega) (by omega), if_neg (by omega)]) (by rw [e1]; omega) (fun k q1 q2 => ?_)
  · unfold qPush
    simp (disch := omega) only [rss_lo]
  rw [e1] at q2
  rw [key s _ hs.1 (by omega) (by omega) (by omega)]
  by_cases e : k = rs r s 1
  · rw [if_pos (by omega)]; exact hv
  · rw [if_neg (by omega)]; exact a6 k q1 (by omega)
theorem qGo_rs {s p k : Int} (hs : 0 ≤ s) (t j : Int) (ht : 0 ≤ t) (hj : 0 ≤ j ∧ j < 21) : rs (qGo r s p k) t j = if t = s ∧ j = 2 then p else if t = s ∧ j = 3 then k else if t = s ∧ j = 4 then rs r s 4 + 1 else rs r t j := by
  unfold qGo
  by_cases e4 : t = s ∧ j = 4
  · rw [if_neg (by omega), if_neg (by omega), if_pos e4, e4.1, e4.2, rs_rss_eq]
  · by_cases e3 : t = s ∧ j = 3
    · rw [if_neg (by omega), if_pos e3, e3.1, e3.2]
      simp (disch := omega) only [rs_rss_ne, rs_rss_eq]
    · by_cases e2 : t = s ∧ j = 2
      · rw [if_pos e2, e2.1, e2.2]
        simp (disch := omega) only [rs_rss_ne, rs_rss_eq]
      · rw [if_neg e2, if_neg e3, if_neg e4]
        simp (disch := omega) only [rs_rss_ne]
theorem qGo_lo {s p k : Int} (hs : 0 ≤ s) (j : Nat) (hj : j < 694) : (qGo r s p k) j = r j := by
  unfold qGo
  simp (disch := omega) only [rss_lo]
theorem qGo_hi {s p k : Int} (hs : 0 ≤ s ∧ s < 12) (j : Nat) (hj : 946 ≤ j) : (qGo r s p k) j = r j := by
  unfold qGo
  simp (disch := omega) only [rss_hi]
/-- after an exchange: what is in the hand h lies on k, what lay there is in the hand of p -/
theorem qEx_rs {p h k : Int} (h2 : 0 ≤ r 2) (hh : h = -1 ∨ 0 ≤ h) (hd : qOnSlot r k = -1 ∨ ¬ h = qOnSlot r k) (t j : Int) (ht : 0 ≤ t) (hj : 0 ≤ j ∧ j < 21) : rs (qEx r p h k) t j = if t = h then (if j = 2 then -1 else if j = 3 then k else if j = 4 then rs r t 4 + 1 else rs r t j) else if t = qOnSlot r k then (if j = 2 then p else if j = 3 then -1 else if j = 4 then rs r t 4 + 1 else rs r t j) else rs r t j := by
  have ho := qSlot_in h2 (r := r) k
  unfold qEx qEx1
  generalize qOnSlot r k = o at ho hd ⊢
  by_cases e1 : h = -1
  · by_cases e2 : o = -1
    · rw [if_pos e2, if_pos e1, if_neg (by omega), if_neg (by omega)]
    · rw [if_neg e2, if_pos e1, qGo_rs (by omega) t j ht hj, if_neg (show ¬ t = h by omega)]
      by_cases e : t = o
      · rw [if_pos e, e]; simp
      · rw [if_neg e, if_neg (by omega), if_neg (by omega), if_neg (by omega)]
  · by_cases e2 : o = -1
    · rw [if_pos e2, if_neg e1, qGo_rs (by omega) t j ht hj]
      by_cases e : t = h
      · rw [if_pos e, e]; simp
      · rw [if_neg e, if_neg (by omega), if_neg (by omega), if_neg (by omega), if_neg (by omega)]
    · rw [if_neg e2, if_neg e1, qGo_rs (by omega) t j ht hj, qGo_rs (by omega) t j ht hj, qGo_rs (by omega) o 4 (by omega) (by omega)]
      by_cases e : t = h
      · have hne : ¬ t = o := by omega
        rw [if_pos e]
        simp [e, hne, show ¬ h = o by omega]
      · rw [if_neg e]
        by_cases e' : t = o
        · rw [if_pos e', e']
          simp [show ¬ o = h by omega]
        · simp [e, e']
end OK1
