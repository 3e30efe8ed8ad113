/-! PURE: a process is read, on both sides -/
/-- goes on if the first part found no error -/
def gth (f : Option (Int × gMem)) (k : gMem → Option (Int × gMem)) : Option (Int × gMem) := f.bind fun q => if q.1 = 0 then some (0, q.2) else k q.2
theorem gth_1 {M : gMem} {k : gMem → Option (Int × gMem)} : gth (some (1, M)) k = k M := rfl
theorem gth_0 {M : gMem} {k : gMem → Option (Int × gMem)} : gth (some (0, M)) k = some (0, M) := rfl
/-- while the process p is read: R is the row with it counted -/
def PI (Mc : gMem) (b : Nat) (Mm : gMem) (a : Nat) (x : gRow) (n ps pb kd dg p : Int) (R : gRow) : Prop :=
  TK Mc b Mm a x n ps pb kd dg ∧ Mm (a + 1) = rup R 1 p ∧ R 1 = p + 1 ∧ (0 ≤ p ∧ p ≤ 7) ∧ qLo R ∧ R 2 = 0 ∧ qFreP R (p + 1) ∧ qFreS R 0 ∧ qOK R 0 ∧ DR Mc (b + 2) R 0
/-- between processes -/
def PA (Mc : gMem) (b : Nat) (Mm : gMem) (a : Nat) (x : gRow) (n ps pb kd dg : Int) (r : gRow) : Prop :=
  TK Mc b Mm a x n ps pb kd dg ∧ Mm (a + 1) = r ∧ qLo r ∧ r 2 = 0 ∧ qFreP r (r 1) ∧ qFreS r 0 ∧ (r 1 = 0 ∨ qOK r 0) ∧ DR Mc (b + 2) r 0
section Proc
variable {M M' Mc Mm Mc' Mm' : gMem} {b a d : Nat} {x : gRow} {n ps pb kd dg K p : Int} {g : Nat → Nat} {r R : gRow}
theorem qAddC_rp {c v : Int} (hp : 0 ≤ p ∧ p < 8) (hm : 0 ≤ rp R p 3 ∧ rp R p 3 ≤ 23) {q k : Int} (hq : 0 ≤ q) (hk : 0 ≤ k ∧ k < 86) : rp (qAddC R p c v) q k = if q = p ∧ k = 3 then rp R p 3 + 1 else if q = p ∧ k = 42 + rp R p 3 then v else if q = p ∧ k = 18 + rp R p 3 then c else rp R q k := by
  unfold qAddC
  by_cases c1 : q = p ∧ k = 3
  · rw [if_pos c1, c1.1, c1.2, rp_rsp_eq]
  · rw [if_neg c1, rp_rsp_ne hp.1 hq (by omega) hk c1]
    by_cases c2 : q = p ∧ k = 42 + rp R p 3
    · rw [if_pos c2, c2.1, c2.2, rp_rsp_eq]
    · rw [if_neg c2, rp_rsp_ne hp.1 hq (by omega) hk c2]
      by_cases c3 : q = p ∧ k = 18 + rp R p 3
      · rw [if_pos c3, c3.1, c3.2, rp_rsp_eq]
      · rw [if_neg c3, rp_rsp_ne hp.1 hq (by omega) hk c3]
theorem qAddC_o {c v : Int} (hp : 0 ≤ p ∧ p < 8) (hm : 0 ≤ rp R p 3 ∧ rp R p 3 ≤ 23) {j : Nat} (hj : j < 6 ∨ 694 ≤ j) : qAddC R p c v j = R j := by
  unfold qAddC
  rw [show ∀ (r : gRow) (k v : Int), 0 ≤ k → k < 86 → rsp r p k v j = r j from fun r k v h1 h2 => rup_miss (by omega), show ∀ (r : gRow) (k v : Int), 0 ≤ k → k < 86 → rsp r p k v j = r j from fun r k v h1 h2 => rup_miss (by omega), show ∀ (r : gRow) (k v : Int), 0 ≤ k → k < 86 → rsp r p k v j = r j from fun r k v h1 h2 => rup_miss (by omega)]
  all_goals omega
/-- what a command's number may be -/
def qCV (R : gRow) (c v : Int) : Prop := (0 ≤ c ∧ c ≤ 13) ∧ (-999999 ≤ v ∧ v ≤ 999999) ∧ (8 ≤ c → c ≤ 10 → 0 ≤ v ∧ v < R 0) ∧ (11 ≤ c → c ≤ 12 → 0 ≤ v ∧ v ≤ 24)
theorem c_addCmd {c v : Int} (hO : qOK R 0) (hD : DR M d R 0) (hp : 0 ≤ p ∧ p < R 1) (hm : rp R p 3 ≤ 23) (hv : qCV R c v) : ∃ M', fX4_addCommand g (d + 1 + (8 + 4 * p.toNat)) c v M = some M' ∧ DR M' d (qAddC R p c v) 0 ∧ qOK (qAddC R p c v) 0 ∧ gFr d M M' := by
  have h1 := hO.2.1
  have hOp := hO.p hp
  have h3 := hOp.2.2.2.1
  have hp8 : 0 ≤ p ∧ p < 8 := by omega
  have hm' : 0 ≤ rp R p 3 ∧ rp R p 3 ≤ 23 := ⟨h3.1, hm⟩
  have X : ∀ q k : Int, 0 ≤ q → 0 ≤ k → k < 86 → rp (qAddC R p c v) q k = if q = p ∧ k = 3 then rp R p 3 + 1 else if q = p ∧ k = 42 + rp R p 3 then v else if q = p ∧ k = 18 + rp R p 3 then c else rp R q k := fun q k q1 q2 q3 => qAddC_rp hp8 hm' q1 ⟨q2, q3⟩
  have Xo : ∀ k : Int, 0 ≤ k → k < 86 → ¬ k = 3 → ¬ k = 42 + rp R p 3 → ¬ k = 18 + rp R p 3 → rp (qAddC R p c v) p k = rp R p k := fun k q1 q2 q3 q4 q5 => by
    rw [X p k hp.1 q1 q2, if_neg (fun z => q3 z.2), if_neg (fun z => q4 z.2), if_neg (fun z => q5 z.2)]
  have X3 : rp (qAddC R p c v) p 3 = rp R p 3 + 1 := by rw [X p 3 hp.1 (by omega) (by omega), if_pos ⟨rfl, rfl⟩]
  have XC : ∀ k : Int, 0 ≤ k → k < rp R p 3 + 1 → rp (qAddC R p c v) p (18 + k) = (if k = rp R p 3 then c else rp R p (18 + k)) ∧ rp (qAddC R p c v) p (42 + k) = (if k = rp R p 3 then v else rp R p (42 + k)) := fun k q1 q2 => by
    rw [X p (18 + k) hp.1 (by omega) (by omega), X p (42 + k) hp.1 (by omega) (by omega)]
    by_cases e : k = rp R p 3
    · rw [if_pos e, if_pos e, if_neg (by omega), if_neg (by omega), if_pos (by omega), if_neg (by omega), if_pos (by omega)]
      exact ⟨rfl, rfl⟩
    · rw [if_neg e, if_neg e, if_neg (by omega), if_neg (by omega), if_neg (by omega), if_neg (by omega), if_neg (by omega), if_neg (by omega)]
      exact ⟨rfl, rfl⟩
  have e4 : M (d + 1 + (8 + 4 * p.toNat)) 4 = rp R p 3 := (hD.2.1 p hp.1 hp.2).f.2.2.2.1
  obtain ⟨a1, a2, a3, a4, m, a5, a6⟩ := hD.2.1 p hp.1 hp.2
  unfold fX4_addCommand
  rw [e4, if_neg (by omega), if_neg (by omega), if_neg (by omega), if_pos (by omega), gst_eq, gup_row (by omega), e4, if_pos (by omega)]
  simp only [gst_eq]
  rw [gup_row (by omega), gup_row (by omega), e4, gwi_eq (by omega) (by omega)]
  generalize hM1 : gup (gup (gup M (d + 1 + (8 + 4 * p.toNat) + 1) (rp R p 3).toNat c) (d + 1 + (8 + 4 * p.toNat) + 2) (rp R p 3).toNat v) (d + 1 + (8 + 4 * p.toNat)) 4 (rp R p 3 + 1) = M1
  have fr : ∀ y : Nat, ¬ (d + 1 + (8 + 4 * p.toNat) ≤ y ∧ y ≤ d + 1 + (8 + 4 * p.toNat) + 2) → M1 y = M y := fun y q => by rw [← hM1, gup_row (by omega), gup_row (by omega), gup_row (by omega)]
  have f0 : ∀ j : Nat, ¬ j = 4 → M1 (d + 1 + (8 + 4 * p.toNat)) j = M (d + 1 + (8 + 4 * p.toNat)) j := fun j q => by rw [← hM1, gup_miss (fun z => q z.2), gup_row (by omega), gup_row (by omega)]
  have f4 : M1 (d + 1 + (8 + 4 * p.toNat)) 4 = rp R p 3 + 1 := by rw [← hM1]; exact gup_hit rfl rfl
  have fk : ∀ j : Nat, M1 (d + 1 + (8 + 4 * p.toNat) + 1) j = if j = (rp R p 3).toNat then c else M (d + 1 + (8 + 4 * p.toNat) + 1) j := fun j => by rw [← hM1, gup_row (by omega), gup_row (by omega), gup_at]
  have fo : ∀ j : Nat, M1 (d + 1 + (8 + 4 * p.toNat) + 2) j = if j = (rp R p 3).toNat then v else M (d + 1 + (8 + 4 * p.toNat) + 2) j := fun j => by rw [← hM1, gup_row (by omega), gup_at, gup_row (by omega)]
  have fs : M1 (d + 1 + (8 + 4 * p.toNat) + 3) = M (d + 1 + (8 + 4 * p.toNat) + 3) := fr _ (by omega)
  have Ho : ∀ j : Nat, j < 6 ∨ 694 ≤ j → qAddC R p c v j = R j := fun j q => qAddC_o hp8 hm' q
  refine ⟨M1, rfl, DR_proc hO hD hp (Int.le_refl 0) (fun y q => fr y (by omega)) (fun j q => Ho j (Or.inl q)) (fun j q => Ho j (Or.inr q)) (fun q k q1 q2 q3 q4 q5 => by rw [X q k q1 q4 q5, if_neg (fun z => q3 z.1), if_neg (fun z => q3 z.1), if_neg (fun z => q3 z.1)]) ⟨fun k q1 q2 => ?_, ?_, fun k q1 q2 => ?_, fun k q1 q2 q3 => ?_, m, ⟨a5.1, fun k q1 q2 => ?_, fun k q1 q2 => ?_⟩, ?_⟩, hO.procs (Int.le_refl 0) (fun j q => Ho j (Or.inl q)) (fun s k q1 q2 q3 q4 => Ho _ (by omega)) (fun q q1 q2 => ?_), fun y q => fr y (by omega)⟩
  · by_cases e : k = 3
    · rw [e, X3]; exact f4
    · have c4 : ¬ cf k = 4 := fun z => e (cf_inj ⟨q1, q2⟩ (by omega) (z.trans (by decide : 4 = cf 3)))
      rw [f0 _ c4, Xo k q1 (by omega) e (by omega) (by omega)]
      exact a1 k q1 q2
  · rw [f0 10 (by omega), a2]
    exact (qInHand_congr (Ho 2 (by omega)) (fun s q1 q2 => Ho _ (by omega))).symm
  · rw [X3] at q2
    obtain ⟨b1, b2⟩ := XC k q1 q2
    rw [b1, b2, fk, fo]
    by_cases e : k = rp R p 3
    · have e' : k.toNat = (rp R p 3).toNat := by rw [e]
      exact ⟨by rw [if_pos e', if_pos e], by rw [if_pos e', if_pos e]⟩
    · have e' : ¬ k.toNat = (rp R p 3).toNat := by omega
      exact ⟨by rw [if_neg e', if_neg e]; exact (a3 k q1 (by omega)).1, by rw [if_neg e', if_neg e]; exact (a3 k q1 (by omega)).2⟩
  · rw [Xo 9 (by omega) (by omega) (by omega) (by omega) (by omega)] at q3 ⊢
    rw [fs, Xo (66 + k) (by omega) (by omega) (by omega) (by omega) (by omega)]
    exact a4 k q1 q2 q3
  · have := a5.1
    rw [Xo (10 + k) (by omega) (by omega) (by omega) (by omega) (by omega)]
    exact a5.2.1 k q1 q2
  · rw [Xo (10 + k) (by omega) (by omega) (by omega) (by omega) (by omega)]
    exact a5.2.2 k q1 q2
  · have := a5.1
    rw [f0 3 (by omega), a6]
    exact qPack_congr _ (fun k q1 q2 => (Xo (10 + k) (by omega) (by omega) (by omega) (by omega) (by omega)).symm)
  · by_cases e : q = p
    · subst e
      obtain ⟨b0, b1, b2, b3, b4, b5, b6, b7, b8, b9, b10⟩ := hOp
      obtain ⟨v1, v2, v3, v4⟩ := hv
      unfold qOKp
      rw [X3, Ho 0 (by omega), Xo 0 (by omega) (by omega) (by omega) (by omega) (by omega), Xo 1 (by omega) (by omega) (by omega) (by omega) (by omega), Xo 2 (by omega) (by omega) (by omega) (by omega) (by omega), Xo 4 (by omega) (by omega) (by omega) (by omega) (by omega), Xo 5 (by omega) (by omega) (by omega) (by omega) (by omega), Xo 6 (by omega) (by omega) (by omega) (by omega) (by omega), Xo 7 (by omega) (by omega) (by omega) (by omega) (by omega), Xo 8 (by omega) (by omega) (by omega) (by omega) (by omega), Xo 9 (by omega) (by omega) (by omega) (by omega) (by omega)]
      refine ⟨b0, b1, b2, by omega, b4, b5, b6, b7, b8, b9, fun k w1 w2 => ?_⟩
      obtain ⟨y1, y2⟩ := XC k w1 w2
      rw [y1, y2]
      by_cases e : k = rp R q 3
      · rw [if_pos e, if_pos e]; exact ⟨v1, v2, v3, v4⟩
      · rw [if_neg e, if_neg e]; exact b10 k w1 (by omega)
    · exact (hO.p ⟨q1, q2⟩).congr (Int.le_refl 0) (Ho 0 (by omega)) (fun k w1 w2 => by rw [X q k q1 w1 w2, if_neg (fun z => e z.1), if_neg (fun z => e z.1), if_neg (fun z => e z.1)])
/-! the reference, once an error is found -/
theorem w_81 {c i v : Int} (h : ¬ Mm a 14 = 0) : fX9_readsCommand_81 g a p c i v Mm = some Mm := by
  unfold fX9_readsCommand_81
  rw [if_neg h]
theorem w_19 {c i : Int} (h : ¬ Mm a 14 = 0) : fX9_readsCommand_19 g a p c i Mm = some Mm := by
  obtain ⟨v, ev⟩ := m_valuex (g := g) h
  unfold fX9_readsCommand_19 fX9_readsCommand_70
  have e0 : (0 : Int) ≤ 0 ∧ (0 : Int) < 1190 := by omega
  simp only [m_mustx h, Option.bind_some, ev, w_81 h, m_isOfSlot, m_takesx h, if_pos e0]
  repeat' split
  all_goals rfl
theorem w_176 {fu : Nat} (h : ¬ Mm a 14 = 0) : ∃ v, fX9_readsProcess_176 g (fu + 1) a p (-1) Mm = some (gup Mm (a + 1) 1 v) := by
  unfold fX9_readsProcess_176
  rw [if_pos rfl, m_isSx h, Option.bind_some, m_mustx h, Option.bind_some, if_pos (by omega), if_pos (by omega), gst_eq]
  exact ⟨_, rfl⟩
theorem w_161 (h : ¬ Mm a 14 = 0) : ∃ v, fX9_readsProcess_161 g a p Mm = some (gup Mm (a + 1) 1 v) := by
  unfold fX9_readsProcess_161
  rw [m_isSx h, Option.bind_some, m_mustx h, Option.bind_some, m_codex h, Option.bind_some]
  exact w_176 (fu := 19999) h
theorem w_143 (h : ¬ Mm a 14 = 0) : ∃ v, fX9_readsProcess_143 g a p Mm = some (gup Mm (a + 1) 1 v) := by
  unfold fX9_readsProcess_143
  rw [m_isWx h, Option.bind_some, if_pos rfl]
  exact w_161 h
theorem gER.row {r' : gRow} (h : gER Mc b Mm a) : gER Mc b (mrow Mm (a + 1) r') a := by
  obtain ⟨e, p, h1, h2, h3, h4, h5⟩ := h
  exact ⟨e, p, h1, h2, h3, by rw [mrow_ne (by omega)]; exact h4, by rw [mrow_ne (by omega)]; exact h5⟩
theorem gER.up {j : Nat} {v : Int} (h : gER Mc b Mm a) : gER Mc b (gup Mm (a + 1) j v) a := by
  obtain ⟨e, p, h1, h2, h3, h4, h5⟩ := h
  exact ⟨e, p, h1, h2, h3, by rw [gup_row (by omega)]; exact h4, by rw [gup_row (by omega)]; exact h5⟩
theorem gMR.up {j : Nat} {v : Int} : gMR a M (gup M (a + 1) j v) := ⟨fun y _ q => gup_row q, fun i _ => by rw [gup_row (by omega)]⟩
/-- the number of a command -/
theorem t_cmdval {c i : Int} {ad : Nat} {Kc : Nat → Nat → Int → gMem → Option (Int × gMem)} (hX : BX x n) (h : TK Mc b Mm a x n ps pb kd dg) (hc : 0 ≤ c ∧ c ≤ 13) (h10 : Mc b 10 = 0) (hr : Mm (a + 1) 0 = R 0) (hd4 : Mc (b + 2) 4 = R 0) (hR : 1 ≤ R 0 ∧ R 0 ≤ 4) :
    (∃ v Mc' Mm' ps' pb' kd' dg', (if c = 0 then (fX5_takeSigned g b Mc).bind fun q_14 => if q_14.1 = 0 then (some (0, q_14.2)) else (fX5_readProgram_79 g Kc b ad i c q_14.2) else fX5_readProgram_79 g Kc b ad i c Mc) = fX5_readProgram_127 g Kc b ad i c Mc' ∧
      (if c = 0 then (fX9_takesValue g a Mm).bind fun q_14 => fX9_readsCommand_81 g a p c i q_14.1 q_14.2 else (fX9_isOfSlot g c).bind fun x_5 => if x_5 = 0 then (if c = 11 then (fX9_readsCommand_70 g a p c i Mm) else (if c = 12 then (fX9_readsCommand_70 g a p c i Mm) else (fX9_readsCommand_81 g a p c i 0 Mm))) else (if (0 : Int) ≤ 0 ∧ (0 : Int) < 1190 then (fX9_takes g a 0 (gwi (Mm (a + 1) (0 : Int).toNat - 1)) Mm).bind fun q_12 => fX9_readsCommand_81 g a p c i q_12.1 q_12.2 else none)) = fX9_readsCommand_81 g a p c i v Mm' ∧
      TK Mc' b Mm' a x n ps' pb' kd' dg' ∧ Mc' b 10 = v ∧ qCV R c v ∧ ps ≤ ps' ∧ gFS b Mc Mc' ∧ gFw a Mm Mm') ∨
    (∃ v Mc' Mm', (if c = 0 then (fX5_takeSigned g b Mc).bind fun q_14 => if q_14.1 = 0 then (some (0, q_14.2)) else (fX5_readProgram_79 g Kc b ad i c q_14.2) else fX5_readProgram_79 g Kc b ad i c Mc) = some (0, Mc') ∧
      (if c = 0 then (fX9_takesValue g a Mm).bind fun q_14 => fX9_readsCommand_81 g a p c i q_14.1 q_14.2 else (fX9_isOfSlot g c).bind fun x_5 => if x_5 = 0 then (if c = 11 then (fX9_readsCommand_70 g a p c i Mm) else (if c = 12 then (fX9_readsCommand_70 g a p c i Mm) else (fX9_readsCommand_81 g a p c i 0 Mm))) else (if (0 : Int) ≤ 0 ∧ (0 : Int) < 1190 then (fX9_takes g a 0 (gwi (Mm (a + 1) (0 : Int).toNat - 1)) Mm).bind fun q_12 => fX9_readsCommand_81 g a p c i q_12.1 q_12.2 else none)) = fX9_readsCommand_81 g a p c i v Mm' ∧
      gER Mc' b Mm' a ∧ gFE b Mc Mc' ∧ gFw a Mm Mm') := by
  have hto := h.to.1
  have E79 : ∀ M : gMem, ¬ (8 ≤ c ∧ c ≤ 10) → fX5_readProgram_79 g Kc b ad i c M = fX5_readProgram_103 g Kc b ad i c M := fun M hn => by
    unfold fX5_readProgram_79
    rw [c_isMove, Option.bind_some, if_pos (qB_f hn)]
  have E103 : ∀ M : gMem, ¬ (c = 11 ∨ c = 12) → fX5_readProgram_103 g Kc b ad i c M = fX5_readProgram_127 g Kc b ad i c M := fun M hn => by
    unfold fX5_readProgram_103
    rw [if_neg (fun z => hn (Or.inl z)), if_neg (fun z => hn (Or.inr z))]
  by_cases c0 : c = 0
  · simp only [if_pos c0]
    rcases t_value (g := g) hX h with ⟨v, Mc1, Mm1, ps1, pb1, kd1, dg1, e1, e2, T1, a1, a2, a3, F1, F2⟩ | ⟨v, Mc1, Mm1, e1, e2, E, F1, F2⟩
    · refine Or.inl ⟨v, Mc1, Mm1, ps1, pb1, kd1, dg1, ?_, ?_, T1, a1, ⟨hc, a2, fun z => by omega, fun z => by omega⟩, by omega, F1, F2⟩
      · rw [e1, Option.bind_some, if_neg (show ¬ (1 : Int) = 0 by omega), E79 _ (by omega), E103 _ (by omega)]
      · rw [e2, Option.bind_some]
    · exact Or.inr ⟨v, Mc1, Mm1, by rw [e1]; rfl, by rw [e2]; rfl, E, F1, F2⟩
  · simp only [if_neg c0]
    rw [m_isOfSlot, Option.bind_some]
    by_cases cm : 8 ≤ c ∧ c ≤ 10
    · rw [if_neg (by rw [qB_t cm]; omega), if_pos (by omega), tn0, hr, gwi_eq (by omega) (by omega)]
      unfold fX5_readProgram_79
      rw [c_isMove, Option.bind_some, if_neg (by rw [qB_t cm]; omega), hd4, gwi_eq (by omega) (by omega)]
      rcases t_num (g := g) (lo := 0) (hi := R 0 - 1) hX (by omega) h with ⟨hq, hrg, M2, N2, ps2, pb2, kd2, dg2, a1, a2, -, T2, a3, a4, G1, G2⟩ | ⟨hq, M2, N2, a1, a2, -, E, G1, G2⟩
      · refine Or.inl ⟨dg, M2, N2, ps2, pb2, kd2, dg2, ?_, ?_, T2, a3, ⟨hc, by omega, fun _ _ => by omega, fun z => by omega⟩, by omega, G1, G2⟩
        · rw [a1, Option.bind_some, if_neg (show ¬ (1 : Int) = 0 by omega), E103 _ (by omega)]
        · rw [a2, Option.bind_some]
      · exact Or.inr ⟨0, M2, N2, by rw [a1]; rfl, by rw [a2]; rfl, E, G1, G2⟩
    · rw [if_pos (qB_f cm), E79 _ cm]
      by_cases cj : c = 11 ∨ c = 12
      · have Er : (if c = 11 then (fX9_readsCommand_70 g a p c i Mm) else (if c = 12 then (fX9_readsCommand_70 g a p c i Mm) else (fX9_readsCommand_81 g a p c i 0 Mm))) = fX9_readsCommand_70 g a p c i Mm := by
          rcases cj with e | e
          · rw [if_pos e]
          · rw [if_neg (by omega), if_pos e]
        have Ec : fX5_readProgram_103 g Kc b ad i c Mc = fX5_readProgram_115 g Kc b ad i c Mc := by
          unfold fX5_readProgram_103
          rcases cj with e | e
          · rw [if_pos e]
          · rw [if_neg (by omega), if_pos e]
        rw [Er, Ec]
        unfold fX9_readsCommand_70 fX5_readProgram_115
        rcases t_num (g := g) (lo := 0) (hi := 24) hX (by omega) h with ⟨hq, hrg, M2, N2, ps2, pb2, kd2, dg2, a1, a2, -, T2, a3, a4, G1, G2⟩ | ⟨hq, M2, N2, a1, a2, -, E, G1, G2⟩
        · refine Or.inl ⟨dg, M2, N2, ps2, pb2, kd2, dg2, ?_, ?_, T2, a3, ⟨hc, by omega, fun z => by omega, fun _ _ => by omega⟩, by omega, G1, G2⟩
          · rw [a1, Option.bind_some, if_neg (show ¬ (1 : Int) = 0 by omega)]
          · rw [a2, Option.bind_some]
        · exact Or.inr ⟨0, M2, N2, by rw [a1]; rfl, by rw [a2]; rfl, E, G1, G2⟩
      · rw [if_neg (fun z => cj (Or.inl z)), if_neg (fun z => cj (Or.inr z)), E103 _ cj]
        exact Or.inl ⟨0, Mc, Mm, ps, pb, kd, dg, rfl, rfl, h, h10, ⟨hc, by omega, fun z => by omega, fun z => by omega⟩, Int.le_refl ps, gFS.rfl', gFw.rfl'⟩
end Proc
