/-! PURE: a desk that is being read: rows and desks grow alike -/
def gCs (b : Nat) (M M' : gMem) : Prop := (∀ y : Nat, y < b ∨ b + 67 ≤ y → M' y = M y) ∧ ∀ j : Nat, j < 5 ∨ 10 < j → M' b j = M b j
def gCE (b : Nat) (M M' : gMem) : Prop := ∀ y : Nat, y < b ∨ b + 67 ≤ y → M' y = M y
def gMR (a : Nat) (M M' : gMem) : Prop := (∀ y : Nat, ¬ y = a → ¬ y = a + 1 → M' y = M y) ∧ ∀ j : Nat, j < 10 ∨ 15 < j → M' a j = M a j
/-- nothing stands yet at the processes from p on, at the stacks from s on -/
def qFreP (r : gRow) (p : Int) : Prop := ∀ j : Nat, 6 + 86 * p ≤ (j : Int) → j < 694 → r j = 0
def qFreS (r : gRow) (s : Int) : Prop := ∀ j : Nat, 694 + 21 * s ≤ (j : Int) → j < 946 → r j = 0
def qLo (r : gRow) : Prop := (1 ≤ r 0 ∧ r 0 ≤ 4) ∧ (0 ≤ r 1 ∧ r 1 ≤ 8) ∧ (0 ≤ r 2 ∧ r 2 ≤ 12) ∧ r 3 = 0 ∧ r 4 = -1 ∧ r 5 = 0
def qInit (r : gRow) (s : Int) : gRow := fun j => if j < 1190 then (if j = 0 then s else if j = 4 then -1 else 0) else r j
def qNamN (f : Int → Int) (len p : Int) : Nat → Int → gRow → gRow
  | 0, _, r => r
  | n + 1, k, r => qNamN f len p n (k + 1) (rsp r p (10 + k) (if k < len then f k else 0))
/-- the row with a new process p -/
def qAddP (r : gRow) (p : Int) (f : Int → Int) (len : Int) : gRow := rup (rsp (qNamN f len p 8 0 r) p 4 3) 1 (p + 1)
def qAddC (r : gRow) (p c v : Int) : gRow := rsp (rsp (rsp r p (18 + rp r p 3) c) p (42 + rp r p 3) v) p 3 (rp r p 3 + 1)
section Build
variable {M M' : gMem} {b a d : Nat} {x : gRow} {n K : Int} {g : Nat → Nat} {r : gRow}
theorem gCs.rfl' : gCs b M M := ⟨fun _ _ => rfl, fun _ _ => rfl⟩
theorem gCs.trans {M'' : gMem} (h : gCs b M M') (h' : gCs b M' M'') : gCs b M M'' := ⟨fun y q => (h'.1 y q).trans (h.1 y q), fun j q => (h'.2 j q).trans (h.2 j q)⟩
theorem gCs.e (h : gCs b M M') : gCE b M M' := h.1
theorem gCE.trans {M'' : gMem} (h : gCE b M M') (h' : gCE b M' M'') : gCE b M M'' := fun y q => (h' y q).trans (h y q)
theorem gFS.cs (h : gFS b M M') : gCs b M M' := ⟨fun y q => h.1 y (by omega), h.2⟩
theorem gF5.cs (h : gF5 b M M') : gCs b M M' := h.s.cs
theorem gFE.ce (h : gFE b M M') : gCE b M M' := fun y q => h y (by omega)
theorem gCE.err {e p : Int} : gCE b M (gEc M b e p) := fun y q => gEc_row (by omega)
theorem gCs.desk {y j : Nat} {v : Int} (hy : b + 2 ≤ y ∧ y < b + 67) : gCs b M (gup M y j v) := ⟨fun z q => gup_row (by omega), fun j q => by rw [gup_row (by omega)]⟩
theorem gFr.cs (h : gFr (b + 2) M M') : gCs b M M' := ⟨fun y q => h y (by omega), fun j q => by rw [h b (by omega)]⟩
theorem gMR.rfl' : gMR a M M := ⟨fun _ _ _ => rfl, fun _ _ => rfl⟩
theorem gMR.trans {M'' : gMem} (h : gMR a M M') (h' : gMR a M' M'') : gMR a M M'' := ⟨fun y q1 q2 => (h'.1 y q1 q2).trans (h.1 y q1 q2), fun j q => (h'.2 j q).trans (h.2 j q)⟩
theorem gFw.mr (h : gFw a M M') : gMR a M M' := ⟨fun y q1 _ => h.1 y q1, h.2⟩
theorem gF9.mr (h : gF9 a M M') : gMR a M M' := h.l.mr
theorem gMR.row {r' : gRow} : gMR a M (mrow M (a + 1) r') := ⟨fun y _ q => mrow_ne q, fun j _ => by rw [mrow_ne (by omega)]⟩
theorem gMR.err {e p : Int} : gMR a M (gEm M a e p) := gFw.err.mr
theorem mrow_r (hr : M (a + 1) = r) : M = mrow M (a + 1) r := by rw [← hr, mrow_self]
theorem m_ofR (hr : M (a + 1) = r) {p k : Int} (hp : 0 ≤ p ∧ p < 8) (hk : 0 ≤ k ∧ k < 86) : fX9_of g a p k M = some (rp r p k) := by rw [mrow_r hr]; exact m_of hp hk
theorem m_setsR (hr : M (a + 1) = r) {p k v : Int} (hp : 0 ≤ p ∧ p < 8) (hk : 0 ≤ k ∧ k < 86) : fX9_sets g a p k v M = some (mrow M (a + 1) (rsp r p k v)) := by
  have h : fX9_sets g a p k v (mrow M (a + 1) r) = some (mrow M (a + 1) (rsp r p k v)) := m_sets hp hk
  rwa [← mrow_r hr] at h
theorem m_putsR (hr : M (a + 1) = r) {s k v : Int} (hs : 0 ≤ s ∧ s < 12) (hk : 0 ≤ k ∧ k < 21) : fX9_puts g a s k v M = some (mrow M (a + 1) (rss r s k v)) := by
  have h : fX9_puts g a s k v (mrow M (a + 1) r) = some (mrow M (a + 1) (rss r s k v)) := m_puts hs hk
  rwa [← mrow_r hr] at h
theorem m_inHandR (hr : M (a + 1) = r) (h2 : 0 ≤ r 2 ∧ r 2 ≤ 12) {p : Int} : fX9_inHand g a p M = some (qInHand r p) := by rw [mrow_r hr]; exact m_inHand h2
theorem m_onSlotR (hr : M (a + 1) = r) (h2 : 0 ≤ r 2 ∧ r 2 ≤ 12) {p : Int} : fX9_onSlot g a p M = some (qOnSlot r p) := by rw [mrow_r hr]; exact m_onSlot h2
theorem m_mayUseR (hr : M (a + 1) = r) {p s : Int} (hp : 0 ≤ p ∧ p < 8) : fX9_mayUse g a p s M = some (if gand (gshr (rp r p 5) s) 1 = 1 then 1 else 0) := by rw [mrow_r hr]; exact m_mayUse hp
theorem TK.row {Mc Mm : gMem} {ps pb kd dg : Int} {r' : gRow} (h : TK Mc b Mm a x n ps pb kd dg) : TK Mc b (mrow Mm (a + 1) r') a x n ps pb kd dg := h.mm (fun _ _ _ => by rw [mrow_ne (by omega)]) (mrow_ne (by omega))
theorem TK.desk {Mc Mc' Mm : gMem} {ps pb kd dg : Int} (h : TK Mc b Mm a x n ps pb kd dg) (hf : gFr (b + 2) Mc Mc') : TK Mc' b Mm a x n ps pb kd dg := h.cc (fun _ _ => by rw [hf b (by omega)]) (hf (b + 1) (by omega))
theorem DR.tok {M M' : gMem} (hO : qOK r K) (hD : DR M (b + 2) r K) (hf : ∀ y : Nat, ¬ y = b → M' y = M y) : DR M' (b + 2) r K := hD.frame hO (fun y q1 _ => hf y (by omega))
theorem qInit_0 {s : Int} : qInit r s 0 = s := rfl
theorem qInit_lo {s : Int} (hs : 1 ≤ s ∧ s ≤ 4) : qLo (qInit r s) := ⟨hs, ⟨Int.le_refl 0, show (0 : Int) ≤ 8 by decide⟩, ⟨Int.le_refl 0, show (0 : Int) ≤ 12 by decide⟩, rfl, rfl, rfl⟩
theorem qInit_p {s : Int} : qFreP (qInit r s) 0 := fun j q1 q2 => by
  unfold qInit
  rw [if_pos (by omega), if_neg (by omega), if_neg (by omega)]
theorem qInit_s {s : Int} : qFreS (qInit r s) 0 := fun j q1 q2 => by
  unfold qInit
  rw [if_pos (by omega), if_neg (by omega), if_neg (by omega)]
theorem m_begins_lp : ∀ (k : Nat) (i : Nat) (M : gMem) (fu : Nat), i + k = 1190 → k < fu → ∃ r', fX9_begins_2 g fu a (i : Int) M = some (mrow M (a + 1) r') ∧ ∀ j : Nat, r' j = if i ≤ j ∧ j < 1190 then (if j = 4 then -1 else 0) else if j = 4 then -1 else M (a + 1) j := by
  intro k
  induction k with
  | zero =>
    intro i M fu hs hf
    obtain ⟨fu, rfl⟩ := fuS hf
    unfold fX9_begins_2
    rw [if_pos (by omega), if_pos (by omega), gst_eq]
    refine ⟨rup (M (a + 1)) 4 (-1), ?_, fun j => ?_⟩
    · have h := mrow_up M (a + 1) (M (a + 1)) 4 (-1)
      rw [mrow_self] at h
      exact congrArg some h
    · rw [if_neg (by omega)]
      show (if j = 4 then (-1 : Int) else M (a + 1) j) = _
      rfl
  | succ k ih =>
    intro i M fu hs hf
    obtain ⟨fu, rfl⟩ := fuS hf
    unfold fX9_begins_2
    rw [if_neg (by omega), if_pos (by omega), gst_eq, gst_eq, gwi_eq (by omega) (by omega)]
    obtain ⟨r', e, h⟩ := ih (i + 1) (gup M (a + 1) (i : Int).toNat 0) fu (by omega) (by omega)
    refine ⟨r', ?_, fun j => ?_⟩
    · have : mrow (gup M (a + 1) (i : Int).toNat 0) (a + 1) r' = mrow M (a + 1) r' := by
        funext y j
        unfold mrow gup
        by_cases hy : y = a + 1
        · rw [if_pos hy, if_pos hy]
        · rw [if_neg hy, if_neg hy, if_neg (fun z => hy z.1)]
      rw [this] at e
      exact e
    · rw [h j, gup_at]
      by_cases c1 : i + 1 ≤ j ∧ j < 1190
      · rw [if_pos c1, if_pos (show i ≤ j ∧ j < 1190 by omega)]
      · rw [if_neg c1]
        by_cases c2 : j = i
        · rw [if_pos (show i ≤ j ∧ j < 1190 by omega), if_pos (show j = (i : Int).toNat by omega)]
        · rw [if_neg (show ¬ (i ≤ j ∧ j < 1190) by omega), if_neg (show ¬ j = (i : Int).toNat by omega)]
theorem m_begins : ∃ r', fX9_begins g a M = some (mrow M (a + 1) r') ∧ ∀ v : Int, rup r' 0 v = qInit (M (a + 1)) v := by
  obtain ⟨r', e, h⟩ := m_begins_lp (g := g) (a := a) 1190 0 M gF (by omega) (by unfold gF; omega)
  refine ⟨r', e, fun v => ?_⟩
  funext j
  unfold rup qInit
  rw [h j]
  by_cases h0 : j = (0 : Int).toNat
  · rw [if_pos h0, if_pos (show j < 1190 by rw [tn0] at h0; omega), if_pos (show j = 0 by rw [tn0] at h0; exact h0)]
  · rw [if_neg h0]
    rw [tn0] at h0
    by_cases h1 : j < 1190
    · rw [if_pos (by omega), if_pos h1, if_neg h0]
    · rw [if_neg (by omega), if_neg h1, if_neg (by omega)]
/-- the class begins a desk -/
theorem c_begin_lp {s : Int} : ∀ (k : Nat) (i : Int) (M : gMem) (fu : Nat), 0 ≤ i → i + k = 4 → k < fu → (∀ j : Int, 0 ≤ j → j < i → M (d + 3) j.toNat = -1) → ∃ M', fX0_begin_2 g fu d s i M = some M' ∧ (M' d 4 = s ∧ M' d 5 = 0 ∧ M' d 6 = 0 ∧ M' d 7 = 0 ∧ M' d 8 = -1) ∧ M' (d + 4) 4 = 0 ∧ (∀ j : Int, 0 ≤ j → j < 4 → M' (d + 3) j.toNat = -1) ∧ gFr d M M' := by
  intro k
  induction k with
  | zero =>
    intro i M fu h0 hs hf hj
    obtain ⟨fu, rfl⟩ := fuS hf
    unfold fX0_begin_2
    rw [if_pos (by omega)]
    simp only [gst_eq]
    refine ⟨_, rfl, ⟨?_, ?_, ?_, ?_, ?_⟩, ?_, fun j q1 q2 => ?_, fun y q => ?_⟩
    · simp (disch := omega) only [gup_miss]; exact gup_hit rfl rfl
    · simp (disch := omega) only [gup_miss]; exact gup_hit rfl rfl
    · simp (disch := omega) only [gup_miss]; exact gup_hit rfl rfl
    · simp (disch := omega) only [gup_miss]; exact gup_hit rfl rfl
    · exact gup_hit rfl rfl
    · simp (disch := omega) only [gup_miss]; exact gup_hit rfl rfl
    · simp (disch := omega) only [gup_miss]; exact hj j q1 (by omega)
    · simp (disch := omega) only [gup_row]
  | succ k ih =>
    intro i M fu h0 hs hf hj
    obtain ⟨fu, rfl⟩ := fuS hf
    unfold fX0_begin_2
    rw [if_neg (by omega), if_pos (by omega), gst_eq, gst_eq, gwi_eq (by omega) (by omega)]
    obtain ⟨M', e, a1, a2, a3, F⟩ := ih (i + 1) (gup M (d + 3) i.toNat (-1)) fu (by omega) (by omega) (by omega) (fun j q1 q2 => by
      by_cases ej : j = i
      · rw [ej]; exact gup_hit rfl rfl
      · rw [gup_miss (by omega)]; exact hj j q1 (by omega))
    exact ⟨M', e, a1, a2, a3, fun y q => by rw [F y q, gup_row (by omega)]⟩
theorem c_begin {s : Int} (hs : 1 ≤ s ∧ s ≤ 4) : ∃ M', fX0_begin g d s M = some M' ∧ DR M' d (qInit r s) 0 ∧ gFr d M M' := by
  obtain ⟨M', e, ⟨a1, a2, a3, a4, a5⟩, a6, a7, F⟩ := c_begin_lp (g := g) (d := d) (s := s) 4 0 M gF (by omega) (by omega) (by unfold gF; omega) (fun j q1 q2 => by omega)
  have z1 : qInit r s 1 = 0 := rfl
  have z2 : qInit r s 2 = 0 := rfl
  have z5 : qInit r s 5 = 0 := rfl
  refine ⟨M', e, ⟨⟨a1, a2, a3, a4, a5⟩, fun p q1 q2 => by omega, fun t q1 q2 => by omega, fun k q1 q2 => ?_, ⟨by omega, by omega, ?_, fun t q1 q2 => by omega⟩⟩, F⟩
  · rw [qInit_0] at q2
    rw [a7 k q1 (by omega)]
    exact (qSlot_none (fun t q3 q4 => by omega)).symm
  · rw [a6, z5]; rfl
theorem qNamN_at {f : Int → Int} {len p : Int} (hp : 0 ≤ p) : ∀ (m : Nat) (k : Int) (r : gRow) (j : Nat), 0 ≤ k → qNamN f len p m k r j = if 16 + 86 * p + k ≤ (j : Int) ∧ (j : Int) < 16 + 86 * p + k + m then (if (j : Int) - 16 - 86 * p < len then f ((j : Int) - 16 - 86 * p) else 0) else r j := by
  intro m
  induction m with
  | zero => intro k r j hk; rw [if_neg (by omega)]; rfl
  | succ m ih =>
    intro k r j hk
    unfold qNamN
    rw [ih (k + 1) _ j (by omega)]
    by_cases c1 : 16 + 86 * p + (k + 1) ≤ (j : Int) ∧ (j : Int) < 16 + 86 * p + (k + 1) + m
    · rw [if_pos c1, if_pos (show 16 + 86 * p + k ≤ (j : Int) ∧ (j : Int) < 16 + 86 * p + k + ((m + 1 : Nat) : Int) by omega)]
    · rw [if_neg c1]
      by_cases c2 : (j : Int) = 16 + 86 * p + k
      · rw [if_pos (show 16 + 86 * p + k ≤ (j : Int) ∧ (j : Int) < 16 + 86 * p + k + ((m + 1 : Nat) : Int) by omega), show (j : Int) - 16 - 86 * p = k by omega]
        exact rup_hit (by omega)
      · rw [if_neg (show ¬ (16 + 86 * p + k ≤ (j : Int) ∧ (j : Int) < 16 + 86 * p + k + ((m + 1 : Nat) : Int)) by omega)]
        exact rup_miss (by omega)
theorem qAddP_at {f : Int → Int} {len p : Int} (hp : 0 ≤ p) (j : Nat) : qAddP r p f len j = if j = 1 then p + 1 else if (j : Int) = 10 + 86 * p then 3 else if 16 + 86 * p ≤ (j : Int) ∧ (j : Int) < 24 + 86 * p then (if (j : Int) - 16 - 86 * p < len then f ((j : Int) - 16 - 86 * p) else 0) else r j := by
  unfold qAddP
  by_cases c1 : j = 1
  · rw [if_pos c1]; exact rup_hit (by rw [tn1]; exact c1)
  · rw [if_neg c1, rup_miss (by rw [tn1]; exact c1)]
    by_cases c2 : (j : Int) = 10 + 86 * p
    · rw [if_pos c2]; exact rup_hit (by omega)
    · rw [if_neg c2, show rsp (qNamN f len p 8 0 r) p 4 3 j = qNamN f len p 8 0 r j from rup_miss (by omega), qNamN_at hp 8 0 r j (by omega)]
      by_cases c3 : 16 + 86 * p ≤ (j : Int) ∧ (j : Int) < 24 + 86 * p
      · rw [if_pos c3, if_pos (by omega)]
      · rw [if_neg c3, if_neg (by omega)]
theorem qAddP_rp {f : Int → Int} {len p : Int} (hp : 0 ≤ p) {q k : Int} (hq : 0 ≤ q) (hk : 0 ≤ k ∧ k < 86) : rp (qAddP r p f len) q k = if q = p ∧ k = 4 then 3 else if q = p ∧ 10 ≤ k ∧ k < 18 then (if k - 10 < len then f (k - 10) else 0) else rp r q k := by
  unfold rp
  rw [qAddP_at hp, if_neg (by omega)]
  by_cases c1 : q = p ∧ k = 4
  · rw [if_pos (by omega), if_pos c1]
  · rw [if_neg (by omega), if_neg c1]
    by_cases c2 : q = p ∧ 10 ≤ k ∧ k < 18
    · rw [if_pos (by omega), if_pos c2, show (((6 + 86 * q + k).toNat : Nat) : Int) - 16 - 86 * p = k - 10 by omega]
    · rw [if_neg (by omega), if_neg c2]
/-- a new process, whose name is no other's: in the row and in the class's desk -/
theorem c_addProc {f : Int → Int} {len : Int} {p : Int} (hlo : qLo r) (h1 : r 1 = p) (hp7 : p ≤ 7) (h2 : r 2 = 0) (hfp : qFreP r p) (hok : r 1 = 0 ∨ qOK r 0) (hl : 1 ≤ len ∧ len ≤ 8) (hf : ∀ k : Int, 0 ≤ k → k < len → 97 ≤ f k ∧ f k ≤ 122) (hD : DR M d r 0) :
    ∃ M', fX0_addProc g d (qPack f len.toNat) M = some (d + 1 + (8 + 4 * p.toNat), M') ∧ DR M' d (qAddP r p f len) 0 ∧ qOK (qAddP r p f len) 0 ∧ gFr d M M' := by
  obtain ⟨l0, l1, l2, l3, l4, l5⟩ := hlo
  have hp0 : 0 ≤ p := by omega
  have R : ∀ q k : Int, 0 ≤ q → 0 ≤ k → k < 86 → rp (qAddP r p f len) q k = if q = p ∧ k = 4 then 3 else if q = p ∧ 10 ≤ k ∧ k < 18 then (if k - 10 < len then f (k - 10) else 0) else rp r q k := fun q k q1 q2 q3 => qAddP_rp hp0 q1 ⟨q2, q3⟩
  have Lo : ∀ j : Nat, j < 6 → ¬ j = 1 → qAddP r p f len j = r j := fun j q1 q2 => by
    rw [qAddP_at hp0, if_neg q2, if_neg (by omega), if_neg (by omega)]
  have L1 : qAddP r p f len 1 = p + 1 := by rw [qAddP_at hp0, if_pos rfl]
  have Hi : ∀ j : Nat, 694 ≤ j → qAddP r p f len j = r j := fun j q1 => by
    rw [qAddP_at hp0, if_neg (by omega), if_neg (by omega), if_neg (by omega)]
  have hz : ∀ k : Int, 0 ≤ k → k < 86 → rp r p k = 0 := fun k q1 q2 => hfp _ (by omega) (by omega)
  have iH : ∀ q : Int, qInHand (qAddP r p f len) q = -1 := fun q => qHand_none (fun s q1 q2 => by rw [Lo 2 (by omega) (by omega)] at q2; omega)
  have iS : ∀ q : Int, qOnSlot (qAddP r p f len) q = -1 := fun q => qSlot_none (fun s q1 q2 => by rw [Lo 2 (by omega) (by omega)] at q2; omega)
  have iHr : ∀ q : Int, qInHand r q = -1 := fun q => qHand_none (fun s q1 q2 => by omega)
  have iSr : ∀ q : Int, qOnSlot r q = -1 := fun q => qSlot_none (fun s q1 q2 => by omega)
  obtain ⟨⟨d4, d5, d6, d7, d8⟩, dP, dS, dL, dT⟩ := hD
  rw [h1] at d5
  unfold fX0_addProc fX4_begin
  rw [d5, if_neg (by omega), if_pos (by omega), if_pos (by omega)]
  simp only [gst_eq]
  rw [Option.bind_some]
  generalize hM1 : gup (gup (gup (gup (gup (gup (gup (gup (gup (gup (gup (gup M (d + 1 + (8 + 4 * p.toNat)) 3 (qPack f len.toNat)) (d + 1 + (8 + 4 * p.toNat)) 4 0) (d + 1 + (8 + 4 * p.toNat)) 5 3) (d + 1 + (8 + 4 * p.toNat)) 6 0) (d + 1 + (8 + 4 * p.toNat)) 7 0) (d + 1 + (8 + 4 * p.toNat)) 8 0) (d + 1 + (8 + 4 * p.toNat)) 9 0) (d + 1 + (8 + 4 * p.toNat)) 10 (-1)) (d + 1 + (8 + 4 * p.toNat)) 11 0) (d + 1 + (8 + 4 * p.toNat)) 12 0) (d + 1 + (8 + 4 * p.toNat)) 13 0) (d + 1 + (8 + 4 * p.toNat)) 14 0 = M1
  have fr : ∀ y : Nat, ¬ y = d + 1 + (8 + 4 * p.toNat) → M1 y = M y := fun y q => by
    rw [← hM1]
    simp (disch := omega) only [gup_row]
  have v3 : M1 (d + 1 + (8 + 4 * p.toNat)) 3 = qPack f len.toNat := by rw [← hM1]; simp (disch := omega) only [gup_miss]; exact gup_hit rfl rfl
  have v4 : M1 (d + 1 + (8 + 4 * p.toNat)) 4 = 0 := by rw [← hM1]; simp (disch := omega) only [gup_miss]; exact gup_hit rfl rfl
  have v5 : M1 (d + 1 + (8 + 4 * p.toNat)) 5 = 3 := by rw [← hM1]; simp (disch := omega) only [gup_miss]; exact gup_hit rfl rfl
  have v6 : M1 (d + 1 + (8 + 4 * p.toNat)) 6 = 0 := by rw [← hM1]; simp (disch := omega) only [gup_miss]; exact gup_hit rfl rfl
  have v7 : M1 (d + 1 + (8 + 4 * p.toNat)) 7 = 0 := by rw [← hM1]; simp (disch := omega) only [gup_miss]; exact gup_hit rfl rfl
  have v8 : M1 (d + 1 + (8 + 4 * p.toNat)) 8 = 0 := by rw [← hM1]; simp (disch := omega) only [gup_miss]; exact gup_hit rfl rfl
  have v9 : M1 (d + 1 + (8 + 4 * p.toNat)) 9 = 0 := by rw [← hM1]; simp (disch := omega) only [gup_miss]; exact gup_hit rfl rfl
  have v10 : M1 (d + 1 + (8 + 4 * p.toNat)) 10 = -1 := by rw [← hM1]; simp (disch := omega) only [gup_miss]; exact gup_hit rfl rfl
  have v11 : M1 (d + 1 + (8 + 4 * p.toNat)) 11 = 0 := by rw [← hM1]; simp (disch := omega) only [gup_miss]; exact gup_hit rfl rfl
  have v12 : M1 (d + 1 + (8 + 4 * p.toNat)) 12 = 0 := by rw [← hM1]; simp (disch := omega) only [gup_miss]; exact gup_hit rfl rfl
  have v13 : M1 (d + 1 + (8 + 4 * p.toNat)) 13 = 0 := by rw [← hM1]; simp (disch := omega) only [gup_miss]; exact gup_hit rfl rfl
  have v14 : M1 (d + 1 + (8 + 4 * p.toNat)) 14 = 0 := by rw [← hM1]; exact gup_hit rfl rfl
  have m5 : M1 d 5 = p := by rw [fr d (by omega)]; exact d5
  rw [m5, gwi_eq (by omega) (by omega)]
  have fr2 : ∀ y : Nat, ¬ y = d → gup M1 d 5 (p + 1) y = M1 y := fun y q => gup_row q
  have dn : ∀ j : Nat, ¬ j = 5 → gup M1 d 5 (p + 1) d j = M d j := fun j q => by rw [gup_miss (fun z => q z.2), fr d (by omega)]
  refine ⟨_, rfl, ⟨⟨?_, ?_, ?_, ?_, ?_⟩, fun q q1 q2 => ?_, fun s q1 q2 => ?_, fun k q1 q2 => ?_, ?_⟩, ⟨?_, ?_, ?_, ?_, ?_, ?_, fun q q1 q2 => ?_, fun s q1 q2 => ?_⟩, fun y q => ?_⟩
  · rw [dn 4 (by omega), Lo 0 (by omega) (by omega)]; exact d4
  · rw [L1]; exact gup_hit rfl rfl
  · rw [dn 6 (by omega), Lo 2 (by omega) (by omega)]; exact d6
  · rw [dn 7 (by omega), Lo 3 (by omega) (by omega)]; exact d7
  · rw [dn 8 (by omega), Lo 4 (by omega) (by omega)]; exact d8
  · rw [L1] at q2
    by_cases e : q = p
    · subst e
      have z0 : ∀ k : Int, 0 ≤ k → k < 86 → ¬ k = 4 → ¬ (10 ≤ k ∧ k < 18) → rp (qAddP r q f len) q k = 0 := fun k w1 w2 w3 w4 => by
        rw [R q k q1 w1 w2, if_neg (fun z => w3 z.2), if_neg (fun z => w4 z.2), hz k w1 w2]
      refine ⟨fun k w1 w2 => ?_, ?_, fun k w1 w2 => ?_, fun k w1 w2 w3 => ?_, len.toNat, ⟨by omega, fun k w1 w2 => ?_, fun k w1 w2 => ?_⟩, ?_⟩
      · rw [fr2 _ (by omega)]
        have hk : k = 0 ∨ k = 1 ∨ k = 2 ∨ k = 3 ∨ k = 4 ∨ k = 5 ∨ k = 6 ∨ k = 7 ∨ k = 8 ∨ k = 9 := by omega
        by_cases e4 : k = 4
        · rw [e4, R q 4 q1 (by omega) (by omega), if_pos ⟨rfl, rfl⟩]; exact v5
        · rw [z0 k w1 (by omega) e4 (by omega)]
          rcases hk with rfl | rfl | rfl | rfl | rfl | rfl | rfl | rfl | rfl | rfl <;> first | exact v8 | exact v9 | exact v7 | exact v4 | exact v6 | exact v11 | exact v12 | exact v13 | exact v14 | exact absurd rfl e4
      · rw [fr2 _ (by omega), v10, iH]
      · rw [z0 3 (by omega) (by omega) (by omega) (by omega)] at w2; omega
      · rw [z0 9 (by omega) (by omega) (by omega) (by omega)] at w3; omega
      · rw [R q (10 + k) q1 (by omega) (by omega), if_neg (by omega), if_pos (by omega), if_pos (by omega), show 10 + k - 10 = k by omega]
        exact hf k w1 (by omega)
      · rw [R q (10 + k) q1 (by omega) (by omega), if_neg (by omega), if_pos (by omega), if_neg (by omega)]
      · rw [fr2 _ (by omega), v3]
        refine qPack_congr _ (fun k w1 w2 => ?_)
        rw [R q (10 + k) q1 (by omega) (by omega), if_neg (by omega), if_pos (by omega), if_pos (by omega), show 10 + k - 10 = k by omega]
    · have hO := hok.resolve_left (by omega)
      have hOp := hO.p (p := q) ⟨q1, by omega⟩
      refine (dP q q1 (by omega)).congr (fun k w1 w2 => ?_) ((iH q).trans (iHr q).symm) hOp.2.2.2.1.2 hOp.2.2.2.2.2.2.2.2.2.1.1 ?_ ?_ ?_ ?_
      · rw [R q k q1 w1 w2, if_neg (fun z => e z.1), if_neg (fun z => e z.1)]
      · rw [fr2 _ (by omega), fr _ (by omega)]
      · rw [fr2 _ (by omega), fr _ (by omega)]
      · rw [fr2 _ (by omega), fr _ (by omega)]
      · rw [fr2 _ (by omega), fr _ (by omega)]
  · rw [Lo 2 (by omega) (by omega)] at q2; omega
  · rw [Lo 0 (by omega) (by omega)] at q2
    rw [fr2 _ (by omega), fr _ (by omega), dL k q1 q2, iS, iSr]
  · exact dT.congr (Lo 5 (by omega) (by omega)) (by omega) (fun j hj => Hi j (by omega)) (Int.le_refl 0) (fun y w1 w2 => by rw [fr2 _ (by omega), fr _ (by omega)])
  · rw [Lo 0 (by omega) (by omega)]; exact l0
  · rw [L1]; omega
  · rw [Lo 2 (by omega) (by omega)]; omega
  · rw [Lo 3 (by omega) (by omega)]; omega
  · rw [Lo 4 (by omega) (by omega), L1]; omega
  · rw [Lo 5 (by omega) (by omega)]; omega
  · rw [L1] at q2
    by_cases e : q = p
    · subst e
      have z0 : ∀ k : Int, 0 ≤ k → k < 86 → ¬ k = 4 → ¬ (10 ≤ k ∧ k < 18) → rp (qAddP r q f len) q k = 0 := fun k w1 w2 w3 w4 => by
        rw [R q k q1 w1 w2, if_neg (fun z => w3 z.2), if_neg (fun z => w4 z.2), hz k w1 w2]
      have e4 : rp (qAddP r q f len) q 4 = 3 := by rw [R q 4 q1 (by omega) (by omega), if_pos ⟨rfl, rfl⟩]
      unfold qOKp
      rw [z0 0 (by omega) (by omega) (by omega) (by omega), z0 1 (by omega) (by omega) (by omega) (by omega), z0 2 (by omega) (by omega) (by omega) (by omega), z0 3 (by omega) (by omega) (by omega) (by omega), e4, z0 5 (by omega) (by omega) (by omega) (by omega), z0 6 (by omega) (by omega) (by omega) (by omega), z0 7 (by omega) (by omega) (by omega) (by omega), z0 8 (by omega) (by omega) (by omega) (by omega), z0 9 (by omega) (by omega) (by omega) (by omega)]
      exact ⟨by omega, by omega, by omega, by omega, by omega, by omega, by omega, by omega, by omega, by omega, fun k w1 w2 => by omega⟩
    · have hO := hok.resolve_left (by omega)
      exact (hO.p (p := q) ⟨q1, by omega⟩).congr (Int.le_refl 0) (Lo 0 (by omega) (by omega)) (fun k w1 w2 => by rw [R q k q1 w1 w2, if_neg (fun z => e z.1), if_neg (fun z => e z.1)])
  · rw [Lo 2 (by omega) (by omega)] at q2; omega
  · rw [fr2 y (by omega), fr y (by omega)]
end Build
