/-! PURE: signed numbers and names, on both sides -/
def gFS (b : Nat) (M M' : gMem) : Prop := (∀ y : Nat, ¬ y = b → M' y = M y) ∧ ∀ j : Nat, j < 5 ∨ 10 < j → M' b j = M b j
def gFE (b : Nat) (M M' : gMem) : Prop := ∀ y : Nat, ¬ y = b → M' y = M y
def gFw (a : Nat) (M M' : gMem) : Prop := (∀ y : Nat, ¬ y = a → M' y = M y) ∧ ∀ j : Nat, j < 10 ∨ 15 < j → M' a j = M a j
/-- both have found the same error -/
def gER (Mc : gMem) (b : Nat) (Mm : gMem) (a : Nat) : Prop := ∃ e p : Int, ¬ e = 0 ∧ Mc b 3 = e ∧ Mc b 4 = p ∧ Mm a 14 = e ∧ Mm a 15 = p
def qNm (ps pb kd : Int) : Prop := kd = 0 ∧ pb - ps ≤ 8
def qSameN (r : gRow) (f : Int → Int) (len p : Int) : Bool := (List.range 8).all fun k => decide (rp r p (10 + (k : Int)) = (if (k : Int) < len then f (k : Int) else 0))
def qNamed (r : gRow) (f : Int → Int) (len : Int) : Int := qFind (qSameN r f len) (r 1).toNat 0
section Val
variable {M M' Mc Mm Mc' Mm' : gMem} {b a d : Nat} {x : gRow} {n ps pb kd dg K : Int} {g : Nat → Nat} {r : gRow}
theorem gFS.rfl' : gFS b M M := ⟨fun _ _ => rfl, fun _ _ => rfl⟩
theorem gFS.trans {M'' : gMem} (h : gFS b M M') (h' : gFS b M' M'') : gFS b M M'' := ⟨fun y q => (h'.1 y q).trans (h.1 y q), fun j q => (h'.2 j q).trans (h.2 j q)⟩
theorem gFS.up {j : Nat} {v : Int} (hj : 5 ≤ j ∧ j ≤ 10) : gFS b M (gup M b j v) := ⟨fun y q => gup_row q, fun i q => gup_miss (by omega)⟩
theorem gF5.s (h : gF5 b M M') : gFS b M M' := ⟨h.1, fun j q => h.2 j (by omega)⟩
theorem gFS.e (h : gFS b M M') : gFE b M M' := h.1
theorem gFE.trans {M'' : gMem} (h : gFE b M M') (h' : gFE b M' M'') : gFE b M M'' := fun y q => (h' y q).trans (h y q)
theorem gFE.err {e p : Int} : gFE b M (gEc M b e p) := fun _ q => gEc_row q
theorem gFw.rfl' : gFw a M M := ⟨fun _ _ => rfl, fun _ _ => rfl⟩
theorem gFw.trans {M'' : gMem} (h : gFw a M M') (h' : gFw a M' M'') : gFw a M M'' := ⟨fun y q => (h'.1 y q).trans (h.1 y q), fun j q => (h'.2 j q).trans (h.2 j q)⟩
theorem gF9.l (h : gF9 a M M') : gFw a M M' := ⟨h.1, fun j q => h.2 j (by omega)⟩
theorem gFw.err {e p : Int} : gFw a M (gEm M a e p) := ⟨fun _ q => gEm_row q, fun j q => gEm_o (by omega) (by omega)⟩
theorem gER.of {e p : Int} (h : ¬ e = 0) : gER (gEc Mc b e p) b (gEm Mm a e p) a := ⟨e, p, h, gEc_3, gEc_4, gEm_14, gEm_15⟩
theorem gER.ne (h : gER Mc b Mm a) : ¬ Mm a 14 = 0 := by
  obtain ⟨e, p, h1, -, -, h4, -⟩ := h
  rw [h4]; exact h1
/-- a number in its range: taken by both, or the same error -/
theorem t_num {lo hi : Int} (hX : BX x n) (hh : 0 ≤ lo ∧ lo ≤ 100 ∧ hi ≤ 999999) (h : TK Mc b Mm a x n ps pb kd dg) :
    (qNE kd dg lo hi = 0 ∧ (lo ≤ dg ∧ dg ≤ hi) ∧ ∃ Mc' Mm' ps' pb' kd' dg', fX5_takeNumber g b lo hi Mc = some (1, Mc') ∧ fX9_takes g a lo hi Mm = some (dg, Mm') ∧ fX9_next g a Mm = some Mm' ∧ TK Mc' b Mm' a x n ps' pb' kd' dg' ∧ Mc' b 10 = dg ∧ pb ≤ ps' ∧ gFS b Mc Mc' ∧ gFw a Mm Mm') ∨
    (¬ qNE kd dg lo hi = 0 ∧ ∃ Mc' Mm', fX5_takeNumber g b lo hi Mc = some (0, Mc') ∧ fX9_takes g a lo hi Mm = some (0, Mm') ∧ fX9_stands g a lo hi Mm = some (0, Mm') ∧ gER Mc' b Mm' a ∧ gFE b Mc Mc' ∧ gFw a Mm Mm') := by
  by_cases hq : qNE kd dg lo hi = 0
  · refine Or.inl ⟨hq, ?_, ?_⟩
    · unfold qNE at hq
      split at hq
      · split at hq
        · assumption
        · omega
      · omega
    · have h10 : TK (gup Mc b 10 dg) b Mm a x n ps pb kd dg := h.cc (fun j q => gup_miss (by omega)) (gup_row (by omega))
      obtain ⟨Mc', Mm', ps', pb', kd', dg', e1, e2, T, q, F1, F2⟩ := t_next (g := g) hX h10
      refine ⟨Mc', Mm', ps', pb', kd', dg', ?_, ?_, e2, T, ?_, q, (gFS.up (by omega)).trans F1.s, F2.l⟩
      · rw [c_num hh h, if_pos hq, e1]; rfl
      · rw [m_takes1 h hq, e2]; rfl
      · rw [F1.2 10 (by omega)]; exact gup_hit rfl rfl
  · refine Or.inr ⟨hq, _, _, ?_, m_takes0 h hq, ?_, gER.of hq, gFE.err, gFw.err⟩
    · rw [c_num hh h, if_neg hq]
    · rw [m_stands h.m14 h.m12 h.m13 h.m10, if_neg hq]
theorem t_value (hX : BX x n) (h : TK Mc b Mm a x n ps pb kd dg) :
    (∃ v Mc' Mm' ps' pb' kd' dg', fX5_takeSigned g b Mc = some (1, Mc') ∧ fX9_takesValue g a Mm = some (v, Mm') ∧ TK Mc' b Mm' a x n ps' pb' kd' dg' ∧ Mc' b 10 = v ∧ (-999999 ≤ v ∧ v ≤ 999999) ∧ pb ≤ ps' ∧ gFS b Mc Mc' ∧ gFw a Mm Mm') ∨
    (∃ v Mc' Mm', fX5_takeSigned g b Mc = some (0, Mc') ∧ fX9_takesValue g a Mm = some (v, Mm') ∧ gER Mc' b Mm' a ∧ gFE b Mc Mc' ∧ gFw a Mm Mm') := by
  have hto := h.to
  unfold fX5_takeSigned fX9_takesValue fX5_takeSigned_14
  rw [m_isS1 hX (by omega) h, Option.bind_some]
  by_cases hs : kd = 2 ∧ x ps.toNat = 45
  · rw [if_pos (((t7 h).2.2.2 45 (by omega) (by omega)).mpr hs), if_neg (show ¬ (1 : Int) = 0 by omega), if_pos hs, if_neg (show ¬ (1 : Int) = 0 by omega)]
    obtain ⟨M1, N1, ps1, pb1, kd1, dg1, e1, e2, T1, q1, F1, F2⟩ := t_next (g := g) hX h
    rw [e1, e2, Option.bind_some, Option.bind_some]
    unfold fX5_takeSigned_23 fX9_takesValue_15 fX5_takeSigned_52
    rcases t_num (g := g) (lo := 0) (hi := 999999) hX (by omega) T1 with ⟨hq, hr, M2, N2, ps2, pb2, kd2, dg2, a1, a2, -, T2, a3, a4, G1, G2⟩ | ⟨hq, M2, N2, a1, a2, -, E, G1, G2⟩
    · refine Or.inl ⟨-dg1, gup M2 b 10 (-dg1), N2, ps2, pb2, kd2, dg2, ?_, ?_, T2.cc (fun j q => gup_miss (by omega)) (gup_row (by omega)), gup_hit rfl rfl, by omega, by have := T1.to.1; omega, (F1.s.trans G1).trans (gFS.up (by omega)), F2.l.trans G2⟩
      · rw [a1, Option.bind_some, if_neg (show ¬ (1 : Int) = 0 by omega), if_neg (show ¬ (1 : Int) = 0 by omega)]
        show gst (gup M2 b 10 (gwi (-(M2 b 10)))) _ = _
        rw [a3, gwi_eq (by omega) (by omega)]; rfl
      · rw [a2, Option.bind_some, gst_eq, if_neg (show ¬ (1 : Int) = 0 by omega), gwi_eq (by omega) (by omega)]
    · refine Or.inr ⟨0, M2, N2, ?_, ?_, E, F1.s.e.trans G1, F2.l.trans G2⟩
      · rw [a1, Option.bind_some, if_pos rfl]
      · rw [a2, Option.bind_some, gst_eq, if_neg (show ¬ (1 : Int) = 0 by omega)]
        rw [gwi_eq (by omega) (by omega)]; rfl
  · rw [if_neg (fun z => hs (((t7 h).2.2.2 45 (by omega) (by omega)).mp z)), if_pos rfl, if_neg hs, if_pos rfl]
    unfold fX5_takeSigned_23 fX9_takesValue_15 fX5_takeSigned_52
    rcases t_num (g := g) (lo := 0) (hi := 999999) hX (by omega) h with ⟨hq, hr, M2, N2, ps2, pb2, kd2, dg2, a1, a2, -, T2, a3, a4, G1, G2⟩ | ⟨hq, M2, N2, a1, a2, -, E, G1, G2⟩
    · refine Or.inl ⟨dg, gup M2 b 10 dg, N2, ps2, pb2, kd2, dg2, ?_, ?_, T2.cc (fun j q => gup_miss (by omega)) (gup_row (by omega)), gup_hit rfl rfl, by omega, a4, G1.trans (gFS.up (by omega)), G2⟩
      · rw [a1, Option.bind_some, if_neg (show ¬ (1 : Int) = 0 by omega), if_pos rfl]
        show gst (gup M2 b 10 (M2 b 10)) _ = _
        rw [a3]; rfl
      · rw [a2, Option.bind_some, gst_eq, if_pos rfl]
    · refine Or.inr ⟨0, M2, N2, ?_, ?_, E, G1, G2⟩
      · rw [a1, Option.bind_some, if_pos rfl]
      · rw [a2, Option.bind_some, gst_eq, if_pos rfl]
theorem m_valuex (h : ¬ Mm a 14 = 0) : ∃ v, fX9_takesValue g a Mm = some (v, Mm) := by
  unfold fX9_takesValue fX9_takesValue_15
  rw [m_isSx h, Option.bind_some, if_pos rfl, m_takesx h, Option.bind_some, gst_eq, if_pos rfl]
  exact ⟨0, rfl⟩
/-! names -/
theorem c_isName (h : TK Mc b Mm a x n ps pb kd dg) : (qNm ps pb kd → fX5_isName g b Mc = some 1) ∧ (¬ qNm ps pb kd → fX5_isName g b Mc = some 0) := by
  unfold fX5_isName qNm
  by_cases k0 : kd = 0
  · rw [if_pos ((t7 h).1.mpr k0), h.2.2.1.2.2.2.1 k0]
    have hle := h.to.2.2.2.2.2.1 k0
    have hlt := h.to.2.2.2.2.1 (by omega)
    by_cases hc : pb - ps ≤ 8
    · have hp := qPack_pos (f := tw x ps) (n := (pb - ps).toNat) (fun k q1 q2 => by have := hle k q1 (by omega); omega) (by omega)
      rw [if_pos hc, if_neg (fun z => hp (glcmp_0.mp z))]
      exact ⟨fun _ => rfl, fun z => absurd ⟨k0, hc⟩ z⟩
    · rw [if_neg hc, if_pos (glcmp_0.mpr rfl)]
      exact ⟨fun z => absurd z.2 hc, fun _ => rfl⟩
  · rw [if_neg (fun z => k0 ((t7 h).1.mp z))]
    exact ⟨fun z => absurd z.1 k0, fun _ => rfl⟩
theorem m_mustName (hn : n ≤ 600) (h : TK Mc b Mm a x n ps pb kd dg) : (qNm ps pb kd → fX9_mustName g a Mm = some Mm) ∧ (¬ qNm ps pb kd → fX9_mustName g a Mm = some (gEm Mm a (-2) ps)) := by
  have h1 := h.to.1
  unfold fX9_mustName fX9_mustName_28 qNm
  rw [if_pos h.m14, h.m12, h.m11, h.m10, gwi_eq (by omega) (by omega), m_fails h.m14, h.m10, Option.bind_some]
  by_cases k0 : kd = 0
  · rw [if_pos k0]
    by_cases hc : pb - ps ≤ 8
    · rw [if_pos hc]
      exact ⟨fun _ => rfl, fun z => absurd ⟨k0, hc⟩ z⟩
    · rw [if_neg hc]
      exact ⟨fun z => absurd z.2 hc, fun _ => rfl⟩
  · rw [if_neg k0]
    exact ⟨fun z => absurd z.1 k0, fun _ => rfl⟩
theorem m_mustNamex (h : ¬ Mm a 14 = 0) : fX9_mustName g a Mm = some Mm := by
  unfold fX9_mustName
  rw [if_neg h]
theorem qSameN_iff {f : Int → Int} {len p : Int} : qSameN r f len p = true ↔ ∀ k : Int, 0 ≤ k → k < 8 → rp r p (10 + k) = (if k < len then f k else 0) := by
  unfold qSameN
  rw [List.all_eq_true]
  constructor
  · intro h k q1 q2
    have := of_decide_eq_true (h k.toNat (List.mem_range.mpr (by omega)))
    rw [show ((k.toNat : Nat) : Int) = k by omega] at this
    exact this
  · intro h k hk
    have := List.mem_range.mp hk
    exact decide_eq_true (h k (by omega) (by omega))
theorem qSameN_name {f : Int → Int} {len p : Int} {m : Nat} (hl : 1 ≤ len ∧ len ≤ 8) (hf : ∀ k : Int, 0 ≤ k → k < len → 97 ≤ f k ∧ f k ≤ 122) (hN : qNameOK r p m) : qPack (fun k => rp r p (10 + k)) m = qPack f len.toNat ↔ qSameN r f len p = true := by
  obtain ⟨n1, n2, n3⟩ := hN
  have b1 : qBytes (fun k => rp r p (10 + k)) m := fun k q1 q2 => by have := n2 k q1 q2; show 1 ≤ rp r p (10 + k) ∧ rp r p (10 + k) ≤ 127; omega
  have b2 : qBytes f len.toNat := fun k q1 q2 => by have := hf k q1 (by omega); omega
  rw [qSameN_iff]
  constructor
  · intro h
    obtain ⟨e1, e2⟩ := qPack_inj _ _ b1 b2 h
    intro k q1 q2
    by_cases hk : k < len
    · rw [if_pos hk]; exact e2 k q1 (by omega)
    · rw [if_neg hk]; exact n3 k (by omega) q2
  · intro h
    have hm : (m : Int) = len := by
      by_cases c : (m : Int) < len
      · have a1 := h m (by omega) (by omega)
        rw [if_pos c, n3 m (by omega) (by omega)] at a1
        have := hf m (by omega) c
        omega
      · by_cases c2 : len < (m : Int)
        · have a1 := h len (by omega) (by omega)
          rw [if_neg (by omega)] at a1
          have := n2 len (by omega) c2
          omega
        · omega
    rw [show m = len.toNat by omega]
    refine qPack_congr _ (fun k q1 q2 => ?_)
    have := h k q1 (by omega)
    rw [if_pos (by omega)] at this
    exact this
theorem c_named_lp {f : Int → Int} {len : Int} (hl : 1 ≤ len ∧ len ≤ 8) (hf : ∀ k : Int, 0 ≤ k → k < len → 97 ≤ f k ∧ f k ≤ 122) (h1 : 0 ≤ r 1 ∧ r 1 ≤ 8) (h5 : M d 5 = r 1) (hP : DRP M d r) : ∀ (k : Nat) (p : Int) (fu : Nat), 0 ≤ p → p + k = r 1 → k < fu → fX0_procNamed_2 g fu d (qPack f len.toNat) p M = some (qFind (qSameN r f len) k p) := by
  intro k
  induction k with
  | zero =>
    intro p fu h0 hs hf
    obtain ⟨fu, rfl⟩ := fuS hf
    unfold fX0_procNamed_2 qFind
    rw [h5, if_pos (by omega)]
  | succ k ih =>
    intro p fu h0 hs hfu
    obtain ⟨fu, rfl⟩ := fuS hfu
    obtain ⟨-, -, -, -, m, hN, hv⟩ := hP p h0 (by omega)
    have hiff := qSameN_name hl hf hN
    unfold fX0_procNamed_2 qFind
    rw [h5, if_neg (by omega), if_neg (by omega), if_pos (by omega), hv, gst_eq, gwi_eq (by omega) (by omega)]
    by_cases hc : qSameN r f len p = true
    · rw [if_pos (glcmp_0.mpr (hiff.mpr hc)), if_pos hc]
    · rw [if_neg (fun z => hc (hiff.mp (glcmp_0.mp z))), if_neg hc]
      exact ih (p + 1) fu (by omega) (by omega) (by omega)
theorem c_named {f : Int → Int} {len : Int} (hl : 1 ≤ len ∧ len ≤ 8) (hf : ∀ k : Int, 0 ≤ k → k < len → 97 ≤ f k ∧ f k ≤ 122) (h1 : 0 ≤ r 1 ∧ r 1 ≤ 8) (h5 : M d 5 = r 1) (hP : DRP M d r) : fX0_procNamed g d (qPack f len.toNat) M = some (qNamed r f len) := by
  unfold fX0_procNamed qNamed
  exact c_named_lp hl hf h1 h5 hP _ _ _ (by omega) (by omega) (by unfold gF; omega)
/-- all places from k on are the same -/
def qSmk (r : gRow) (f : Int → Int) (len p k : Int) : Prop := ∀ j : Int, k ≤ j → j < 8 → rp r p (10 + j) = (if j < len then f j else 0)
theorem m_named_23 {k2 : Nat → Int → gMem → Option Int} {p : Int} (hX : BX x n) (h : TK Mc b Mm a x n ps pb kd dg) (hr : Mm (a + 1) = r) (hp : 0 ≤ p ∧ p < 8) : ∀ (k : Nat) (j s : Int) (fu : Nat), 0 ≤ j → j + k = 8 → k < fu → (¬ s = 0 ∧ qSmk r (tw x ps) (pb - ps) p j → fX9_named_23 g k2 fu a p s j Mm = some p) ∧ (¬ (¬ s = 0 ∧ qSmk r (tw x ps) (pb - ps) p j) → fX9_named_23 g k2 fu a p s j Mm = k2 a (p + 1) Mm) := by
  have hn := hX.1
  have hto := h.to.1
  have hM : Mm = mrow Mm (a + 1) r := by rw [← hr, mrow_self]
  intro k
  induction k with
  | zero =>
    intro j s fu h0 hs hf
    obtain ⟨fu, rfl⟩ := fuS hf
    unfold fX9_named_23
    rw [if_pos (by omega)]
    by_cases hs0 : s = 0
    · rw [if_pos hs0, gst_eq, gwi_eq (by omega) (by omega)]
      exact ⟨fun z => absurd hs0 z.1, fun _ => rfl⟩
    · rw [if_neg hs0]
      exact ⟨fun _ => rfl, fun z => absurd ⟨hs0, fun i q1 q2 => by omega⟩ z⟩
  | succ k ih =>
    intro j s fu h0 hs hf
    obtain ⟨fu, rfl⟩ := fuS hf
    unfold fX9_named_23 fX9_named_70 fX9_named_77 fX9_named_78
    rw [if_neg (by omega)]
    simp only [gst_eq]
    rw [gwi_eq (x := j + 1) (by omega) (by omega)]
    obtain ⟨z1, z2⟩ := ih (j + 1) 0 fu (by omega) (by omega) (by omega)
    obtain ⟨o1, o2⟩ := ih (j + 1) 1 fu (by omega) (by omega) (by omega)
    by_cases hs0 : s = 0
    · rw [if_pos hs0]
      exact ⟨fun z => absurd hs0 z.1, fun _ => z2 (fun y => y.1 rfl)⟩
    · rw [if_neg hs0]
      have e1 : fX9_of g a p (gwi (10 + j)) Mm = some (rp r p (10 + j)) := by rw [gwi_eq (by omega) (by omega), hM]; exact m_of hp (by omega)
      rw [e1, Option.bind_some, h.m11, h.m10, gwi_eq (x := ps + j) (by omega) (by omega)]
      have eS : ∀ v : Int, (if j < pb - ps then tw x ps j else 0) = v → ((¬ s = 0 ∧ qSmk r (tw x ps) (pb - ps) p j → (if rp r p (10 + j) = v then fX9_named_23 g k2 fu a p 1 (j + 1) Mm else fX9_named_23 g k2 fu a p 0 (j + 1) Mm) = some p) ∧ (¬ (¬ s = 0 ∧ qSmk r (tw x ps) (pb - ps) p j) → (if rp r p (10 + j) = v then fX9_named_23 g k2 fu a p 1 (j + 1) Mm else fX9_named_23 g k2 fu a p 0 (j + 1) Mm) = k2 a (p + 1) Mm)) := by
        intro v hv
        by_cases hc : rp r p (10 + j) = v
        · rw [if_pos hc]
          refine ⟨fun y => o1 ⟨by omega, fun i q1 q2 => y.2 i (by omega) q2⟩, fun y => o2 (fun w => y ⟨hs0, fun i q1 q2 => ?_⟩)⟩
          by_cases ei : i = j
          · rw [ei, hc, hv]
          · exact w.2 i (by omega) q2
        · rw [if_neg hc]
          refine ⟨fun y => absurd ((y.2 j (by omega) (by omega)).trans hv) hc, fun _ => z2 (fun w => w.1 rfl)⟩
      by_cases hb : pb ≤ ps + j
      · rw [if_pos hb]
        exact eS 0 (if_neg (by omega))
      · rw [if_neg hb, if_pos (by omega)]
        have ev : Mm (a + 7) (ps + j).toNat = tw x ps j := h.2.1.2 (ps + j) (by omega) (by omega)
        rw [ev]
        exact eS _ (if_pos (by omega))
theorem m_named_lp (hX : BX x n) (h : TK Mc b Mm a x n ps pb kd dg) (hr : Mm (a + 1) = r) (h1 : 0 ≤ r 1 ∧ r 1 ≤ 8) : ∀ (k : Nat) (p : Int) (fu : Nat), 0 ≤ p → p + k = r 1 → k < fu → fX9_named_2 g fu a p Mm = some (qFind (qSameN r (tw x ps) (pb - ps)) k p) := by
  intro k
  induction k with
  | zero =>
    intro p fu h0 hs hf
    obtain ⟨fu, rfl⟩ := fuS hf
    unfold fX9_named_2 qFind
    rw [hr, tn1, if_pos (by omega), if_pos (by omega)]
  | succ k ih =>
    intro p fu h0 hs hf
    obtain ⟨fu, rfl⟩ := fuS hf
    obtain ⟨z1, z2⟩ := m_named_23 (g := g) (k2 := fX9_named_2 g fu) (p := p) hX h hr (by omega) 8 0 1 gF (by omega) (by omega) (by unfold gF; omega)
    have hiff : qSmk r (tw x ps) (pb - ps) p 0 ↔ qSameN r (tw x ps) (pb - ps) p = true := by rw [qSameN_iff]; exact Iff.rfl
    unfold fX9_named_2 qFind
    rw [hr, tn1, if_pos (by omega), if_neg (by omega), h.m14, if_pos rfl]
    by_cases hc : qSameN r (tw x ps) (pb - ps) p = true
    · rw [if_pos hc]; exact z1 ⟨by omega, hiff.mpr hc⟩
    · rw [if_neg hc, z2 (fun w => hc (hiff.mp w.2))]
      exact ih (p + 1) fu (by omega) (by omega) (by omega)
theorem m_named (hX : BX x n) (h : TK Mc b Mm a x n ps pb kd dg) (hr : Mm (a + 1) = r) (h1 : 0 ≤ r 1 ∧ r 1 ≤ 8) : fX9_named g a Mm = some (qNamed r (tw x ps) (pb - ps)) := by
  unfold fX9_named qNamed
  exact m_named_lp hX h hr h1 _ _ _ (by omega) (by omega) (by unfold gF; omega)
theorem m_namedx (h : ¬ Mm a 14 = 0) : fX9_named g a Mm = some (-1) := by
  unfold fX9_named
  show fX9_named_2 g (19999 + 1) a 0 Mm = _
  unfold fX9_named_2
  rw [if_pos (by omega), if_neg h]
  split <;> rfl
/-! commands' words -/
theorem c_wordOf {k : Int} (hk : 0 ≤ k ∧ k ≤ 13) : fX5_wordOf g k = some (4 + k.toNat) ∧ fX9_wordOf g k = some (4 + k.toNat + 40) := by
  have : k = 0 ∨ k = 1 ∨ k = 2 ∨ k = 3 ∨ k = 4 ∨ k = 5 ∨ k = 6 ∨ k = 7 ∨ k = 8 ∨ k = 9 ∨ k = 10 ∨ k = 11 ∨ k = 12 ∨ k = 13 := by omega
  rcases this with rfl | rfl | rfl | rfl | rfl | rfl | rfl | rfl | rfl | rfl | rfl | rfl | rfl | rfl <;> exact ⟨rfl, rfl⟩
/-- both find the same command, or none -/
theorem t_code (hX : BX x n) (h : TK Mc b Mm a x n ps pb kd dg) : ∀ (k : Nat) (i : Int) (fu fu' : Nat), 0 ≤ i → i + k = 14 → k < fu → k < fu' → ∃ c : Int, (c = -1 ∨ (0 ≤ c ∧ c ≤ 13 ∧ kd = 0)) ∧ fX5_kindOfWord_2 g fu b i Mc = some c ∧ fX9_codeHere_2 g fu' a i Mm = some c := by
  intro k
  induction k with
  | zero =>
    intro i fu fu' h0 hs hf hf'
    obtain ⟨fu, rfl⟩ := fuS hf
    obtain ⟨fu', rfl⟩ := fuS hf'
    unfold fX5_kindOfWord_2 fX9_codeHere_2
    rw [if_pos (by omega), if_pos (by omega)]
    exact ⟨-1, Or.inl rfl, rfl, rfl⟩
  | succ k ih =>
    intro i fu fu' h0 hs hf hf'
    obtain ⟨fu, rfl⟩ := fuS hf
    obtain ⟨fu', rfl⟩ := fuS hf'
    obtain ⟨w1, w2⟩ := c_wordOf (g := g) (k := i) (by omega)
    unfold fX5_kindOfWord_2 fX9_codeHere_2
    rw [if_neg (by omega), if_neg (by omega), w1, w2, Option.bind_some, Option.bind_some]
    by_cases hw : qIsW x ps pb kd (gtx (4 + i.toNat))
    · rw [c_isW (by omega) h hw, m_isW (by omega) hX h hw, Option.bind_some, Option.bind_some, if_neg (by omega), if_neg (by omega)]
      exact ⟨i, Or.inr ⟨h0, by omega, hw.1⟩, rfl, rfl⟩
    · rw [c_isW0 (by omega) h hw, m_isW0 (by omega) hX h hw, Option.bind_some, Option.bind_some, if_pos rfl, if_pos rfl, gst_eq, gst_eq, gwi_eq (by omega) (by omega)]
      exact ih (i + 1) fu fu' (by omega) (by omega) (by omega) (by omega)
theorem m_codex_lp (h : ¬ Mm a 14 = 0) : ∀ (k : Nat) (i : Int) (fu : Nat), 0 ≤ i → i + k = 14 → k < fu → fX9_codeHere_2 g fu a i Mm = some (-1) := by
  intro k
  induction k with
  | zero =>
    intro i fu h0 hs hf
    obtain ⟨fu, rfl⟩ := fuS hf
    unfold fX9_codeHere_2
    rw [if_pos (by omega)]
  | succ k ih =>
    intro i fu h0 hs hf
    obtain ⟨fu, rfl⟩ := fuS hf
    unfold fX9_codeHere_2
    rw [if_neg (by omega), (c_wordOf (g := g) (k := i) (by omega)).2, Option.bind_some, m_isWx h, Option.bind_some, if_pos rfl, gst_eq, gwi_eq (by omega) (by omega)]
    exact ih (i + 1) fu (by omega) (by omega) (by omega)
theorem m_codex (h : ¬ Mm a 14 = 0) : fX9_codeHere g a Mm = some (-1) := m_codex_lp h 14 0 gF (by omega) (by omega) (by unfold gF; omega)
end Val
