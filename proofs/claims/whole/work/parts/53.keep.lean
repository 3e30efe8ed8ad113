/-! PURE: what is kept for undoing -/
/-- the row of age b (the newest has age 0), in the reference's long array -/
def KM (M : gMem) (a : Nat) (n : Int) (kept : Nat → gRow) : Prop := M a 6 = n ∧ (0 ≤ n ∧ n ≤ 8) ∧ ∀ b : Nat, (b : Int) < n → ∀ j : Nat, j < 1190 → M (a + 4) (1190 * (n.toNat - 1 - b) + j) = kept b j
/-- the desk of age b in the class's ring -/
def KC (M : gMem) (h : Nat) (n : Int) (kept : Nat → gRow) (K : Int) : Prop := M h 1 = n ∧ (0 ≤ M h 2 ∧ M h 2 < 8) ∧ ∀ b : Nat, (b : Int) < n → qOK (kept b) K ∧ DR M (h + 1 + (1 + 65 * ((M h 2 + 7 - b) % 8).toNat)) (kept b) K
def qKeep (r : gRow) (kept : Nat → gRow) : Nat → gRow
  | 0 => r
  | b + 1 => kept b
section Keep
variable {M M' : gMem} {d d' h a : Nat} {r : gRow} {K K' n : Int} {kept : Nat → gRow} {g : Nat → Nat}
/-- a desk that nothing wrote on says what it said -/
theorem DR.frame (hO : qOK r K) (hD : DR M d r K) (hm : ∀ x : Nat, d ≤ x → x < d + 65 → M' x = M x) : DR M' d r K := by
  have o1 := hO.2.1
  have o2 := hO.2.2.1
  have o5 := hO.2.2.2.2.2.1
  obtain ⟨A, B, C, D, E⟩ := hD
  refine ⟨A.congr (fun _ _ => rfl) (hm d (by omega) (by omega)), fun p q1 q2 => ?_, fun s q1 q2 => ?_, D.congr rfl (fun _ => rfl) (hm _ (by omega) (by omega)), E.congr rfl o5.2 (fun _ _ => rfl) (Int.le_refl _) (fun x q1 q2 => hm x (by omega) (by omega))⟩
  · have hOp := hO.p ⟨q1, q2⟩
    exact (B p q1 q2).congr (fun _ _ _ => rfl) rfl hOp.2.2.2.1.2 hOp.2.2.2.2.2.2.2.2.2.1.1 (hm _ (by omega) (by omega)) (hm _ (by omega) (by omega)) (hm _ (by omega) (by omega)) (hm _ (by omega) (by omega))
  · exact (C s q1 q2).congr (hO.len q1 q2).2 (fun _ _ _ => rfl) (hm _ (by omega) (by omega)) (hm _ (by omega) (by omega))
theorem c_remember (hO : qOK r K) (hD : DR M d r K) (hd : d + 65 ≤ h) (hKC : KC M h n kept K) (hn : 0 ≤ n ∧ n ≤ 8) : ∃ M', fX1_remember g h d M = some M' ∧ KC M' h (gmin (n + 1) 8) (qKeep r kept) K ∧ ∀ x : Nat, x < h ∨ h + 522 ≤ x → M' x = M x := by
  obtain ⟨k1, k2, k3⟩ := hKC
  generalize hz : M h 2 = z at k2 k3
  obtain ⟨M1, e1, D1, F1⟩ := c_copyFrom (g := g) (M := M) (d := d) (d' := h + 1 + (1 + 65 * z.toNat)) (by omega) hO hD
  have f2 : M1 h 2 = z := by rw [F1 h (by omega)]; exact hz
  have f1 : M1 h 1 = n := by rw [F1 h (by omega)]; exact k1
  have hzm : (z + 1).tmod 8 = (z + 1) % 8 := tmod_pos (by omega)
  have hg : gmin (n + 1) 8 = if n = 8 then 8 else n + 1 := by unfold gmin; split <;> split <;> omega
  refine ⟨gup (gup M1 h 2 ((z + 1).tmod 8)) h 1 (gmin (n + 1) 8), ?_, ⟨gup_hit rfl rfl, ?_, fun b hb => ?_⟩, fun x q => ?_⟩
  · unfold fX1_remember fX1_remember_32
    rw [hz, if_neg (by omega), if_neg (by omega), if_pos (by omega), e1, Option.bind_some, f2, gwi_eq (by omega) (by omega), gst_eq, gst_eq, gup_miss (by omega), f1, gwi_eq (by omega) (by omega)]
  · rw [gup_miss (by omega), gup_hit rfl rfl, hzm]; omega
  · have e2 : gup (gup M1 h 2 ((z + 1).tmod 8)) h 1 (gmin (n + 1) 8) h 2 = (z + 1) % 8 := by rw [gup_miss (by omega), gup_hit rfl rfl, hzm]
    rw [e2]
    have fr : ∀ x : Nat, ¬ x = h → gup (gup M1 h 2 ((z + 1).tmod 8)) h 1 (gmin (n + 1) 8) x = M1 x := fun x q => by rw [gup_row q, gup_row q]
    rw [hg] at hb
    cases b with
    | zero =>
      refine ⟨hO, ?_⟩
      have ei : (((z + 1) % 8 + 7 - ((0 : Nat) : Int)) % 8).toNat = z.toNat := by omega
      rw [ei]
      exact D1.frame hO (fun x q1 q2 => fr x (by omega))
    | succ b =>
      have hb' : (b : Int) < n ∧ b < 7 := by split at hb <;> omega
      obtain ⟨o, dd⟩ := k3 b hb'.1
      refine ⟨o, ?_⟩
      have ei : (((z + 1) % 8 + 7 - ((b + 1 : Nat) : Int)) % 8).toNat = ((z + 7 - (b : Int)) % 8).toNat := by omega
      rw [ei]
      refine dd.frame o (fun x q1 q2 => ?_)
      rw [fr x (by omega), F1 x (by omega)]
  · rw [gup_row (by omega), gup_row (by omega), F1 x (by omega)]
theorem m_copies_lp {dst src : Nat} {x y : Int} (hne : ¬ src = dst) (hx : 0 ≤ x ∧ x ≤ 100000) (hy : 0 ≤ y ∧ y ≤ 100000) (l1 : y + 1190 ≤ ((g src / 16 - 1 : Nat) : Int)) (l2 : x + 1190 ≤ ((g dst / 16 - 1 : Nat) : Int)) : ∀ (n : Nat) (i : Nat) (fu : Nat), i + n = 1190 → n < fu → fX9_copies_3 g fu dst x src y (i : Int) (gcp M src y.toNat dst x.toNat i) = some (gcp M src y.toNat dst x.toNat 1190) := by
  intro n
  induction n with
  | zero =>
    intro i fu hs hf
    obtain ⟨fu, rfl⟩ := fuS hf
    unfold fX9_copies_3
    have : i = 1190 := by omega
    rw [if_pos (by omega), this]
  | succ n ih =>
    intro i fu hs hf
    obtain ⟨fu, rfl⟩ := fuS hf
    unfold fX9_copies_3
    have e : gup (gcp M src y.toNat dst x.toNat i) dst (x + i).toNat (gcp M src y.toNat dst x.toNat i src (y + i).toNat) = gcp M src y.toNat dst x.toNat (i + 1) := by
      rw [gcp_row hne]
      funext b j
      unfold gup
      by_cases hb : b = dst ∧ j = (x + i).toNat
      · rw [if_pos hb, gcp_hit ⟨hb.1, by omega, by omega⟩]
        have : (y + i).toNat = y.toNat + (j - x.toNat) := by omega
        rw [this]
      · rw [if_neg hb]
        unfold gcp
        by_cases h2 : b = dst ∧ x.toNat ≤ j ∧ j < x.toNat + i
        · rw [if_pos h2, if_pos ⟨h2.1, h2.2.1, by omega⟩]
        · rw [if_neg h2, if_neg (by omega)]
    rw [if_neg (by omega), gwi_eq (x := y + i) (by omega) (by omega), gwi_eq (x := x + i) (by omega) (by omega), if_pos (by omega), if_pos (by omega), gst_eq, gst_eq, gwi_eq (by omega) (by omega), e]
    exact ih (i + 1) fu (by omega) (by omega)
theorem m_copies {dst src : Nat} {x y : Int} (hne : ¬ src = dst) (hx : 0 ≤ x ∧ x ≤ 100000) (hy : 0 ≤ y ∧ y ≤ 100000) (l1 : y + 1190 ≤ ((g src / 16 - 1 : Nat) : Int)) (l2 : x + 1190 ≤ ((g dst / 16 - 1 : Nat) : Int)) : fX9_copies g dst x src y M = some (gcp M src y.toNat dst x.toNat 1190) := by
  unfold fX9_copies
  have := m_copies_lp (M := M) hne hx hy l1 l2 1190 0 gF (by omega) (by unfold gF; omega)
  have e : gcp M src y.toNat dst x.toNat 0 = M := by
    funext b j
    exact gcp_miss (by omega)
  rw [e] at this
  exact this
end Keep
