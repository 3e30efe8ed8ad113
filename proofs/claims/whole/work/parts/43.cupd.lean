/-! PURE: the class's writing beside the reference's -/
section CUpd
variable {M M' : gMem} {d : Nat} {r r' : gRow} {K K' : Int} {g : Nat → Nat}
theorem DR_proc (hO : qOK r K) (hD : DR M d r K) {p : Int} (hp : 0 ≤ p ∧ p < r 1) (hK : K ≤ K') (hm : ∀ x : Nat, ¬ (d + 1 + (8 + 4 * p.toNat) ≤ x ∧ x ≤ d + 1 + (8 + 4 * p.toNat) + 3) → M' x = M x) (hlo : ∀ j : Nat, j < 6 → r' j = r j) (hhi : ∀ j : Nat, 694 ≤ j → r' j = r j) (ho : ∀ q k : Int, 0 ≤ q → q < r 1 → ¬ q = p → 0 ≤ k → k < 86 → rp r' q k = rp r q k) (hn : DRp M' (d + 1 + (8 + 4 * p.toNat)) r' p) : DR M' d r' K' := by
  have h1 := hO.2.1
  have h2 := hO.2.2.1
  have h5 := hO.2.2.2.2.2.1
  obtain ⟨A, B, C, D, E⟩ := hD
  have hs : ∀ s k : Int, 0 ≤ s → 0 ≤ k → rs r' s k = rs r s k := fun s k q1 q2 => hhi _ (by omega)
  have e2 := hlo 2 (by omega)
  refine ⟨A.congr (fun j hj => hlo j (by omega)) (hm d (by omega)), fun q q1 q2 => ?_, fun s q1 q2 => ?_, ?_, ?_⟩
  · rw [hlo 1 (by omega)] at q2
    by_cases e : q = p
    · rw [e]; exact hn
    · have hOp := hO.p ⟨q1, q2⟩
      exact (B q q1 q2).congr (fun k q3 q4 => ho q k q1 q2 e q3 q4) (qInHand_congr e2 (fun s q3 q4 => hs s 2 q3 (by omega))) hOp.2.2.2.1.2 hOp.2.2.2.2.2.2.2.2.2.1.1 (hm _ (by omega)) (hm _ (by omega)) (hm _ (by omega)) (hm _ (by omega))
  · rw [e2] at q2
    exact (C s q1 q2).congr (hO.len q1 q2).2 (fun k q3 q4 => hs s k q1 q3) (hm _ (by omega)) (hm _ (by omega))
  · exact D.congr (hlo 0 (by omega)) (fun k => qOnSlot_congr e2 (fun s q1 q2 => hs s 3 q1 (by omega))) (hm _ (by omega))
  · exact E.congr (hlo 5 (by omega)) h5.2 (fun j hj => hhi j (by omega)) hK (fun x q1 q2 => hm x (by omega))
theorem DR_stack (hO : qOK r K) (hD : DR M d r K) {s : Int} (hs : 0 ≤ s ∧ s < r 2) (hm : ∀ x : Nat, ¬ (d + 2 + (39 + 2 * s.toNat) ≤ x ∧ x ≤ d + 2 + (39 + 2 * s.toNat) + 1) → M' x = M x) (hlo : ∀ j : Nat, j < 694 → r' j = r j) (hhi : ∀ j : Nat, 946 ≤ j → r' j = r j) (ho : ∀ t k : Int, 0 ≤ t → t < r 2 → ¬ t = s → 0 ≤ k → k < 21 → rs r' t k = rs r t k) (e2 : rs r' s 2 = rs r s 2) (e3 : rs r' s 3 = rs r s 3) (hn : DRs M' (d + 2 + (39 + 2 * s.toNat)) r' s) : DR M' d r' K := by
  have h1 := hO.2.1
  have h2 := hO.2.2.1
  have h5 := hO.2.2.2.2.2.1
  obtain ⟨A, B, C, D, E⟩ := hD
  have a2 := hlo 2 (by omega)
  have f2 : ∀ t : Int, 0 ≤ t → t < r 2 → rs r' t 2 = rs r t 2 := fun t q1 q2 => by
    by_cases e : t = s
    · rw [e]; exact e2
    · exact ho t 2 q1 q2 e (by omega) (by omega)
  have f3 : ∀ t : Int, 0 ≤ t → t < r 2 → rs r' t 3 = rs r t 3 := fun t q1 q2 => by
    by_cases e : t = s
    · rw [e]; exact e3
    · exact ho t 3 q1 q2 e (by omega) (by omega)
  refine ⟨A.congr (fun j hj => hlo j (by omega)) (hm d (by omega)), fun q q1 q2 => ?_, fun t q1 q2 => ?_, ?_, ?_⟩
  · rw [hlo 1 (by omega)] at q2
    have hOp := hO.p ⟨q1, q2⟩
    exact (B q q1 q2).congr (fun k q3 q4 => hlo _ (by omega)) (qInHand_congr a2 f2) hOp.2.2.2.1.2 hOp.2.2.2.2.2.2.2.2.2.1.1 (hm _ (by omega)) (hm _ (by omega)) (hm _ (by omega)) (hm _ (by omega))
  · rw [a2] at q2
    by_cases e : t = s
    · rw [e]; exact hn
    · exact (C t q1 q2).congr (hO.len q1 q2).2 (fun k q3 q4 => ho t k q1 q2 e q3 q4) (hm _ (by omega)) (hm _ (by omega))
  · exact D.congr (hlo 0 (by omega)) (fun k => qOnSlot_congr a2 f3) (hm _ (by omega))
  · exact E.congr (hlo 5 (by omega)) h5.2 (fun j hj => hhi j (by omega)) (Int.le_refl _) (fun x q1 q2 => hm x (by omega))
/-- one of the numbers of a process -/
theorem DR_p (hO : qOK r K) (hD : DR M d r K) {p k v : Int} (hp : 0 ≤ p ∧ p < r 1) (hk : 0 ≤ k ∧ k ≤ 8 ∧ k ≠ 3) (hK : K ≤ K') : DR (gup M (d + 1 + (8 + 4 * p.toNat)) (cf k) v) d (rsp r p k v) K' := by
  have h1 := hO.2.1
  have hOp := hO.p hp
  have h24 := hOp.2.2.2.1
  obtain ⟨a1, a2, a3, a4, n, a5, a6⟩ := hD.2.1 p hp.1 hp.2
  have R : ∀ k' : Int, 0 ≤ k' → k' < 86 → ¬ k' = k → rp (rsp r p k v) p k' = rp r p k' := fun k' q1 q2 q3 => by simp (disch := omega) only [rp_rsp_ne]
  have c10 := (cf_ne (k := k) (by omega)).1
  have c3 := (cf_ne (k := k) (by omega)).2
  refine DR_proc hO hD hp hK (fun x hx => gup_row (by omega)) (fun j hj => rsp_lo (by omega) (by omega) hj) (fun j hj => rsp_hi (by omega) (by omega) hj) (fun q k' q1 q2 q3 q4 q5 => by simp (disch := omega) only [rp_rsp_ne]) ⟨fun k' q1 q2 => ?_, ?_, fun k' q1 q2 => ?_, fun k' q1 q2 q3 => ?_, n, ⟨a5.1, fun k' q1 q2 => ?_, fun k' q1 q2 => ?_⟩, ?_⟩
  · by_cases e : k' = k
    · rw [e, gup_hit rfl rfl, rp_rsp_eq]
    · rw [gup_miss (fun z => e (cf_inj ⟨q1, q2⟩ (by omega) z.2)), R k' q1 (by omega) e]; exact a1 k' q1 q2
  · rw [gup_miss (fun z => c10 z.2.symm), a2]
    exact (qInHand_congr (rsp_lo (by omega) (by omega) (by omega)) (fun s q1 q2 => rs_rsp (by omega) q1 (by omega) (by omega))).symm
  · rw [R 3 (by omega) (by omega) (by omega)] at q2
    rw [gup_row (by omega), gup_row (by omega), R _ (by omega) (by omega) (by omega), R _ (by omega) (by omega) (by omega)]
    exact a3 k' q1 q2
  · rw [R 9 (by omega) (by omega) (by omega)] at q3 ⊢
    rw [gup_row (by omega), R _ (by omega) (by omega) (by omega)]
    exact a4 k' q1 q2 q3
  · have := a5.1
    rw [R _ (by omega) (by omega) (by omega)]; exact a5.2.1 k' q1 q2
  · rw [R _ (by omega) (by omega) (by omega)]; exact a5.2.2 k' q1 q2
  · rw [gup_miss (fun z => c3 z.2.symm), a6]
    have : ∀ m : Nat, m ≤ 8 → qPack (fun k => rp r p (10 + k)) m = qPack (fun k' => rp (rsp r p k v) p (10 + k')) m := by
      intro m
      induction m with
      | zero => intro _; rfl
      | succ m ih => intro hm; unfold qPack; rw [ih (by omega), R (10 + (m : Int)) (by omega) (by omega) (by omega)]
    exact this n (by have := a5.1; omega)
theorem c_dropTop (hO : qOK r K) (hD : DR M d r K) {s : Int} (hs : 0 ≤ s ∧ s < r 2) (h1 : 1 ≤ rs r s 1) : ∃ M', fX3_dropTop g (d + 2 + (39 + 2 * s.toNat)) M = some M' ∧ DR M' d (qPop r s) K ∧ gFr d M M' := by
  have h2 := hO.2.2.1
  have hl := hO.len hs.1 hs.2
  obtain ⟨a1, a2, a3, a4, a5, a6⟩ := hD.2.2.1 s hs.1 hs.2
  have R := fun t k ht hk => qPop_rs (r := r) hs.1 t k ht hk
  refine ⟨gup M (d + 2 + (39 + 2 * s.toNat)) 1 (rs r s 1 - 1), ?_, DR_stack hO hD hs (fun x hx => gup_row (by omega)) (fun j hj => qPop_lo hs.1 j hj) (fun j hj => qPop_hi (by omega) j hj) (fun t k q1 q2 q3 q4 q5 => by rw [R t k q1 (by omega), if_neg (by omega)]) (by rw [R s 2 hs.1 (by omega), if_neg (by omega)]) (by rw [R s 3 hs.1 (by omega), if_neg (by omega)]) ⟨?_, ?_, ?_, ?_, ?_, fun k q1 q2 => ?_⟩, gFr.up (by omega)⟩
  · unfold fX3_dropTop
    rw [a2, if_neg (by omega), gst_eq, gwi_eq (by omega) (by omega)]
  · rw [gup_miss (by omega), R s 0 hs.1 (by omega), if_neg (by omega)]; exact a1
  · rw [gup_hit rfl rfl, R s 1 hs.1 (by omega), if_pos (by omega)]
  · rw [gup_miss (by omega), R s 2 hs.1 (by omega), if_neg (by omega)]; exact a3
  · rw [gup_miss (by omega), R s 3 hs.1 (by omega), if_neg (by omega)]; exact a4
  · rw [gup_miss (by omega), R s 4 hs.1 (by omega), if_neg (by omega)]; exact a5
  · rw [R s 1 hs.1 (by omega), if_pos (by omega)] at q2
    rw [gup_row (by omega), R s _ hs.1 (by omega), if_neg (by omega)]
    exact a6 k q1 (by omega)
theorem c_addTop (hO : qOK r K) (hD : DR M d r K) {s v : Int} (hs : 0 ≤ s ∧ s < r 2) (h1 : rs r s 1 < rs r s 0) : ∃ M', fX3_addTop g (d + 2 + (39 + 2 * s.toNat)) v M = some M' ∧ DR M' d (qPush r s v) K ∧ gFr d M M' := by
  have h2 := hO.2.2.1
  have hl := hO.len hs.1 hs.2
  have h16 := (hO.2.2.2.2.2.2.2 s hs.1 hs.2).1.2
  have hl' : 0 ≤ rs r s 1 ∧ rs r s 1 ≤ 15 := by omega
  obtain ⟨a1, a2, a3, a4, a5, a6⟩ := hD.2.2.1 s hs.1 hs.2
  have R := fun t k ht hk => qPush_rs (r := r) (v := v) hs.1 hl' t k ht hk
  have F1 : gFr d M (gup M (d + 2 + (39 + 2 * s.toNat) + 1) (rs r s 1).toNat v) := gFr.up (by omega)
  refine ⟨gup (gup M (d + 2 + (39 + 2 * s.toNat) + 1) (rs r s 1).toNat v) (d + 2 + (39 + 2 * s.toNat)) 1 (rs r s 1 + 1), ?_, DR_stack hO hD hs (fun x hx => by rw [gup_row (by omega), gup_row (by omega)]) (fun j hj => qPush_lo hs.1 hl' j hj) (fun j hj => qPush_hi (by omega) hl' j hj) (fun t k q1 q2 q3 q4 q5 => by rw [R t k q1 (by omega), if_neg (by omega), if_neg (by omega)]) (by rw [R s 2 hs.1 (by omega), if_neg (by omega), if_neg (by omega)]) (by rw [R s 3 hs.1 (by omega), if_neg (by omega), if_neg (by omega)]) ⟨?_, ?_, ?_, ?_, ?_, fun k q1 q2 => ?_⟩, F1.trans (gFr.up (by omega))⟩
  · unfold fX3_addTop
    have e : gup M (d + 2 + (39 + 2 * s.toNat) + 1) (rs r s 1).toNat v (d + 2 + (39 + 2 * s.toNat)) 1 = rs r s 1 := by rw [gup_row (by omega)]; exact a2
    rw [a2, a1, if_neg (by omega), if_neg (by omega), if_neg (by omega), if_pos (by omega), gst_eq, gst_eq, e, gwi_eq (by omega) (by omega)]
  · rw [gup_miss (by omega), gup_row (by omega), R s 0 hs.1 (by omega), if_neg (by omega), if_neg (by omega)]; exact a1
  · rw [gup_hit rfl rfl, R s 1 hs.1 (by omega), if_pos (by omega)]
  · rw [gup_miss (by omega), gup_row (by omega), R s 2 hs.1 (by omega), if_neg (by omega), if_neg (by omega)]; exact a3
  · rw [gup_miss (by omega), gup_row (by omega), R s 3 hs.1 (by omega), if_neg (by omega), if_neg (by omega)]; exact a4
  · rw [gup_miss (by omega), gup_row (by omega), R s 4 hs.1 (by omega), if_neg (by omega), if_neg (by omega)]; exact a5
  · rw [R s 1 hs.1 (by omega), if_pos (by omega)] at q2
    rw [gup_row (by omega), R s _ hs.1 (by omega), if_neg (by omega)]
    by_cases e : k = rs r s 1
    · rw [if_pos (by omega), gup_hit rfl (by omega)]
    · rw [if_neg (by omega), gup_miss (by omega)]
      exact a6 k q1 (by omega)
theorem tmod_pos {x b : Int} (h : 0 ≤ x) : x.tmod b = x % b := Int.tmod_eq_emod_of_nonneg h
theorem c_keepSaying (hO : qOK r K) (hK : K ≤ 1000000000) (hD : DR M d r K) {p v : Int} (hp : 0 ≤ p ∧ p < r 1) : ∃ M', fX4_keepSaying g (d + 1 + (8 + 4 * p.toNat)) v M = some M' ∧ DR M' d (qSay r p v) (K + 1) ∧ gFr d M M' := by
  have h1 := hO.2.1
  have hOp := hO.p hp
  have h9 := hOp.2.2.2.2.2.2.2.2.2.1
  have h24 := hOp.2.2.2.1
  have hPp := hD.2.1 p hp.1 hp.2
  have f9 := hPp.f.2.2.2.2.2.2.2.2.2
  obtain ⟨a1, a2, a3, a4, n, a5, a6⟩ := hPp
  have R := fun q k hq hk => qSay_rp (r := r) (v := v) hp.1 q k hq hk
  have hb : d ≤ d + 1 + (8 + 4 * p.toNat) ∧ d + 1 + (8 + 4 * p.toNat) + 3 < d + 65 := by omega
  have hx : 0 ≤ (rp r p 9).tmod 20 ∧ (rp r p 9).tmod 20 < 20 := by rw [tmod_pos h9.1]; omega
  have G : ∀ x : Nat, ¬ x = d + 1 + (8 + 4 * p.toNat) → ¬ x = d + 1 + (8 + 4 * p.toNat) + 3 → gup (gup M (d + 1 + (8 + 4 * p.toNat) + 3) ((rp r p 9).tmod 20).toNat v) (d + 1 + (8 + 4 * p.toNat)) 14 (rp r p 9 + 1) x = M x := fun x q1 q2 => by rw [gup_row q1, gup_row q2]
  refine ⟨gup (gup M (d + 1 + (8 + 4 * p.toNat) + 3) ((rp r p 9).tmod 20).toNat v) (d + 1 + (8 + 4 * p.toNat)) 14 (rp r p 9 + 1), ?_, DR_proc hO hD hp (by omega) (fun x q => G x (by omega) (by omega)) (fun j hj => qSay_off (by omega) j (by omega)) (fun j hj => qSay_off (by omega) j (by omega)) (fun q k q1 q2 q3 q4 q5 => by rw [R q k q1 (by omega), if_neg (by omega), if_neg (by omega), if_neg (by omega)]) ⟨fun k q1 q2 => ?_, ?_, fun k q1 q2 => ?_, fun k q1 q2 q3 => ?_, n, ⟨a5.1, fun k q1 q2 => ?_, fun k q1 q2 => ?_⟩, ?_⟩, fun x q => G x (by omega) (by omega)⟩
  · unfold fX4_keepSaying fX4_keepSaying_28
    have e : gup M (d + 1 + (8 + 4 * p.toNat) + 3) ((rp r p 9).tmod 20).toNat v (d + 1 + (8 + 4 * p.toNat)) 14 = rp r p 9 := by rw [gup_row (by omega)]; exact f9
    rw [f9, gst_eq, if_neg (by omega), if_neg (by omega), if_pos (by omega), gst_eq, gst_eq, e, gwi_eq (by omega) (by omega)]
  · by_cases e : k = 9
    · rw [e, gup_hit rfl (show cf 9 = 14 by decide), R p 9 hp.1 (by omega), if_pos (by omega)]
    · have : ¬ cf k = 14 := fun z => e (cf_inj ⟨q1, q2⟩ (by omega) z)
      rw [gup_miss (fun z => this z.2), gup_row (by omega), R p k hp.1 (by omega), if_neg (by omega), if_neg (by omega), if_neg (by omega)]
      exact a1 k q1 q2
  · rw [gup_miss (by omega), gup_row (by omega), a2]
    exact (qInHand_congr (qSay_off (by omega) 2 (by omega)) (fun s q1 q2 => qSay_off (by omega) _ (by omega))).symm
  · rw [R p 3 hp.1 (by omega), if_neg (by omega), if_neg (by omega), if_neg (by omega)] at q2
    rw [G _ (by omega) (by omega), G _ (by omega) (by omega), R p _ hp.1 (by omega), if_neg (by omega), if_neg (by omega), if_neg (by omega), R p _ hp.1 (by omega), if_neg (by omega), if_neg (by omega), if_neg (by omega)]
    exact a3 k q1 q2
  · rw [R p 9 hp.1 (by omega), if_pos (by omega)] at q3 ⊢
    rw [gup_row (by omega), R p _ hp.1 (by omega), if_neg (by omega)]
    by_cases e : k = 0
    · rw [if_pos (by omega), gup_hit rfl (by rw [e]; congr 2; omega)]
    · rw [if_neg (by omega), if_pos (by omega), gup_miss (by rw [tmod_pos (by omega), tmod_pos (by omega)]; omega)]
      have := a4 (k - 1) (by omega) (by omega) (by omega)
      rw [show rp r p 9 + 1 - 1 - k = rp r p 9 - 1 - (k - 1) by omega, show 66 + k - 1 = 66 + (k - 1) by omega]
      exact this
  · have := a5.1
    rw [R p _ hp.1 (by omega), if_neg (by omega), if_neg (by omega), if_neg (by omega)]; exact a5.2.1 k q1 q2
  · rw [R p _ hp.1 (by omega), if_neg (by omega), if_neg (by omega), if_neg (by omega)]; exact a5.2.2 k q1 q2
  · rw [gup_miss (by omega), gup_row (by omega), a6]
    have : ∀ m : Nat, m ≤ 8 → qPack (fun k => rp r p (10 + k)) m = qPack (fun k' => rp (qSay r p v) p (10 + k')) m := by
      intro m
      induction m with
      | zero => intro _; rfl
      | succ m ih => intro hm; unfold qPack; rw [ih (by omega), R p (10 + (m : Int)) hp.1 (by omega), if_neg (by omega), if_neg (by omega), if_neg (by omega)]
    exact this n (by have := a5.1; omega)
theorem c_add (hO : qOK r K) (hK : K ≤ 1000000000) (hD : DR M d r K) {p x y : Int} : ∃ M', fX2_add g (d + 4) (r 3) p x y M = some M' ∧ DR M' d (qTr r p x y) (K + 1) ∧ gFr d M M' := by
  have h1 := hO.2.1
  have h2 := hO.2.2.1
  have h5 := hO.2.2.2.2.2.1
  obtain ⟨A, B, C, D, t1, t2, t3, t4⟩ := hD
  have O := fun j hj hj2 => qTr_off (r := r) (p := p) (x := x) (y := y) h5 j hj hj2
  have T5 := qTr_5 (r := r) (p := p) (x := x) (y := y) h5
  have T := fun i z hi hz => qTr_at (r := r) (p := p) (x := x) (y := y) h5 i z hi hz
  generalize hn : M (d + 4) 4 = n at t1 t2 t3 t4
  have hx : 0 ≤ n.tmod 40 ∧ n.tmod 40 < 40 := by rw [tmod_pos t1]; omega
  have e5 : (qTr r p x y) 5 = gmin (n + 1) 40 := by rw [T5, t3]; unfold gmin; split <;> (try split) <;> omega
  generalize hi : (n.tmod 40).toNat = i at *
  have hM : ∀ z : Nat, ¬ (d + 4 ≤ z ∧ z ≤ d + 8) → gup (gup (gup (gup (gup M (d + 4 + 1) i (r 3)) (d + 4 + 2) i p) (d + 4 + 3) i x) (d + 4 + 4) i y) (d + 4) 4 (n + 1) z = M z := fun z q => by
    rw [gup_row (by omega), gup_row (by omega), gup_row (by omega), gup_row (by omega), gup_row (by omega)]
  refine ⟨gup (gup (gup (gup (gup M (d + 4 + 1) i (r 3)) (d + 4 + 2) i p) (d + 4 + 3) i x) (d + 4 + 4) i y) (d + 4) 4 (n + 1), ?_, ⟨A.congr (fun j hj => O j (by omega) (by omega)) (hM _ (by omega)), fun q q1 q2 => ?_, fun s q1 q2 => ?_, D.congr (O 0 (by omega) (by omega)) (fun k => (qTr_same h5).slot h2.2 k) (hM _ (by omega)), ?_⟩, fun z q => hM z (by omega)⟩
  · unfold fX2_add fX2_add_54
    have e : gup (gup (gup (gup M (d + 4 + 1) i (r 3)) (d + 4 + 2) i p) (d + 4 + 3) i x) (d + 4 + 4) i y (d + 4) 4 = n := by
      rw [gup_row (by omega), gup_row (by omega), gup_row (by omega), gup_row (by omega)]; exact hn
    rw [hn, gst_eq, if_neg (by omega), if_neg (by omega)]
    simp (disch := omega) only [if_pos, gst_eq, hi]
    rw [e, gwi_eq (by omega) (by omega)]
  · rw [O 1 (by omega) (by omega)] at q2
    have hOp := hO.p ⟨q1, q2⟩
    exact (B q q1 q2).congr (fun k q3 q4 => O _ (by omega) (by omega)) ((qTr_same h5).hand h2.2 q) hOp.2.2.2.1.2 hOp.2.2.2.2.2.2.2.2.2.1.1 (hM _ (by omega)) (hM _ (by omega)) (hM _ (by omega)) (hM _ (by omega))
  · rw [O 2 (by omega) (by omega)] at q2
    exact (C s q1 q2).congr (hO.len q1 q2).2 (fun k q3 q4 => O _ (by omega) (by omega)) (hM _ (by omega)) (hM _ (by omega))
  · have m0 : gup (gup (gup (gup (gup M (d + 4 + 1) i (r 3)) (d + 4 + 2) i p) (d + 4 + 3) i x) (d + 4 + 4) i y) (d + 4) 4 (n + 1) (d + 4) 4 = n + 1 := gup_hit rfl rfl
    have m1 : gup (gup (gup (gup (gup M (d + 4 + 1) i (r 3)) (d + 4 + 2) i p) (d + 4 + 3) i x) (d + 4 + 4) i y) (d + 4) 4 (n + 1) (d + 4 + 1) = gup M (d + 4 + 1) i (r 3) (d + 4 + 1) := by rw [gup_row (by omega), gup_row (by omega), gup_row (by omega), gup_row (by omega)]
    have m2 : gup (gup (gup (gup (gup M (d + 4 + 1) i (r 3)) (d + 4 + 2) i p) (d + 4 + 3) i x) (d + 4 + 4) i y) (d + 4) 4 (n + 1) (d + 4 + 2) = gup (gup M (d + 4 + 1) i (r 3)) (d + 4 + 2) i p (d + 4 + 2) := by rw [gup_row (by omega), gup_row (by omega), gup_row (by omega)]
    have m3 : gup (gup (gup (gup (gup M (d + 4 + 1) i (r 3)) (d + 4 + 2) i p) (d + 4 + 3) i x) (d + 4 + 4) i y) (d + 4) 4 (n + 1) (d + 4 + 3) = gup (gup (gup M (d + 4 + 1) i (r 3)) (d + 4 + 2) i p) (d + 4 + 3) i x (d + 4 + 3) := by rw [gup_row (by omega), gup_row (by omega)]
    have m4 : gup (gup (gup (gup (gup M (d + 4 + 1) i (r 3)) (d + 4 + 2) i p) (d + 4 + 3) i x) (d + 4 + 4) i y) (d + 4) 4 (n + 1) (d + 4 + 4) = gup (gup (gup (gup M (d + 4 + 1) i (r 3)) (d + 4 + 2) i p) (d + 4 + 3) i x) (d + 4 + 4) i y (d + 4 + 4) := by rw [gup_row (by omega)]
    unfold DRt
    rw [m0, m1, m2, m3, m4]
    refine ⟨by omega, by omega, e5, fun b q1 q2 => ?_⟩
    rw [T5] at q2 ⊢
    generalize hL : (if r 5 = 40 then (40 : Int) else r 5 + 1) = L at q2 T ⊢
    have hL' : 1 ≤ L ∧ L ≤ 40 ∧ L ≤ r 5 + 1 := by rw [← hL]; split <;> omega
    have t0 := T (L - 1 - b) 0 (by omega) (by omega)
    have t1' := T (L - 1 - b) 1 (by omega) (by omega)
    have t2' := T (L - 1 - b) 2 (by omega) (by omega)
    have t3' := T (L - 1 - b) 3 (by omega) (by omega)
    rw [show 1030 + 4 * (L - 1 - b) + 0 = 1030 + 4 * (L - 1 - b) by omega] at t0
    rw [t0, t1', t2', t3']
    by_cases e : b = 0
    · have ei : ((n + 1 - 1 - b).tmod 40).toNat = i := by rw [← hi]; congr 2; omega
      simp (disch := omega) only [if_pos, if_neg]
      rw [ei]
      exact ⟨gup_hit rfl rfl, gup_hit rfl rfl, gup_hit rfl rfl, gup_hit rfl rfl⟩
    · have hr5 : r 5 ≤ n := by rw [t3]; unfold gmin; split <;> omega
      have ei : ¬ ((n + 1 - 1 - b).tmod 40).toNat = i := by rw [← hi, tmod_pos (by omega), tmod_pos (by omega)]; omega
      obtain ⟨u1, u2, u3, u4⟩ := t4 (b - 1) (by omega) (by omega)
      have eb : n + 1 - 1 - b = n - 1 - (b - 1) := by omega
      have ej : (if r 5 = 40 then L - 1 - b + 1 else L - 1 - b) = r 5 - 1 - (b - 1) := by rw [← hL]; split <;> omega
      have hne : ¬ (L - 1 - b = L - 1) := by omega
      rw [ej]
      simp only [if_neg hne]
      have gm : ∀ (N : gMem) (a c : Nat) (w : Int), gup N a i w c ((n + 1 - 1 - b).tmod 40).toNat = N c ((n + 1 - 1 - b).tmod 40).toNat := fun N a c w => gup_miss (fun z => ei z.2)
      simp only [gm]
      rw [eb]
      refine ⟨?_, u2, u3, u4⟩
      rw [show 1030 + 4 * (r 5 - 1 - (b - 1)) + 0 = 1030 + 4 * (r 5 - 1 - (b - 1)) by omega]
      exact u1
end CUpd
