/-! PURE: the text buffers; append -/
theorem gand255 (x : Int) : 0 ≤ gand x 255 ∧ gand x 255 ≤ 255 := by
  unfold gand
  obtain ⟨j, hj, e⟩ := pk_andE (gi x) (m := gi 255) 8 (by decide)
  rw [e, nI_toInt (by omega)]
  omega
theorem gwb_gwb (x : Int) : gwb (gwb x) = gwb x := by unfold gwb; omega
def qByte (v sh : Int) : Int := gand (gshr v sh) 255
def qPut1 (s : gRow × Int) (b : Int) : gRow × Int := if b = 0 then s else (rup s.1 s.2 b, s.2 + 1)
def qAddN (v : Int) : Nat → gRow × Int → gRow × Int
  | 0, s => s
  | n + 1, s => qAddN v n (qPut1 s (qByte v (8 * (n : Int))))
def qNzN (v : Int) : Nat → Int
  | 0 => 0
  | n + 1 => (if qByte v (8 * (n : Int)) = 0 then 0 else 1) + qNzN v n
/-- the text x of length n in the class's buffer, and in the reference's -/
def BC (M : gMem) (b : Nat) (x : gRow) (n : Int) : Prop := M b 2 = n ∧ ∀ k : Int, 0 ≤ k → k < n → M (b + 1) k.toNat = gwb (x k.toNat)
def BM (M : gMem) (a : Nat) (x : gRow) (n : Int) : Prop := M a 9 = n ∧ ∀ k : Int, 0 ≤ k → k < n → M (a + 7) k.toNat = x k.toNat
def BX (x : gRow) (n : Int) : Prop := (0 ≤ n ∧ n ≤ 600) ∧ ∀ k : Int, 0 ≤ k → k < n → 1 ≤ x k.toNat ∧ x k.toNat ≤ 255
def gFb (b k1 c : Nat) (M M' : gMem) : Prop := (∀ y : Nat, ¬ y = b → ¬ y = c → M' y = M y) ∧ ∀ j : Nat, ¬ j = k1 → M' b j = M b j
section App
variable {M M' : gMem} {b a : Nat} {x : gRow} {n : Int} {g : Nat → Nat}
theorem gFb.rfl' {k1 c : Nat} : gFb b k1 c M M := ⟨fun _ _ _ => rfl, fun _ _ => rfl⟩
theorem gFb.trans {k1 c : Nat} {M'' : gMem} (h : gFb b k1 c M M') (h' : gFb b k1 c M' M'') : gFb b k1 c M M'' := ⟨fun y q1 q2 => (h'.1 y q1 q2).trans (h.1 y q1 q2), fun j q => (h'.2 j q).trans (h.2 j q)⟩
theorem qPut1_2 (s : gRow × Int) (v : Int) : (qPut1 s v).2 = s.2 + (if v = 0 then 0 else 1) := by
  unfold qPut1
  split
  · omega
  · rfl
theorem qAddN_2 (v : Int) : ∀ (n : Nat) (s : gRow × Int), (qAddN v n s).2 = s.2 + qNzN v n := by
  intro n
  induction n with
  | zero => intro s; unfold qAddN qNzN; omega
  | succ n ih =>
    intro s
    unfold qAddN qNzN
    rw [ih, qPut1_2]
    omega
theorem qNzN_rng (v : Int) : ∀ n : Nat, 0 ≤ qNzN v n ∧ qNzN v n ≤ n := by
  intro n
  induction n with
  | zero => unfold qNzN; omega
  | succ n ih => unfold qNzN; split <;> omega
theorem BX.put {s : gRow × Int} {v : Int} (h : BX s.1 s.2) (hv : 0 ≤ v ∧ v ≤ 255) (hn : s.2 + (if v = 0 then 0 else 1) ≤ 600) : BX (qPut1 s v).1 (qPut1 s v).2 := by
  unfold qPut1
  by_cases h0 : v = 0
  · rw [if_pos h0]; exact h
  · rw [if_neg h0] at hn ⊢
    refine ⟨by have := h.1; show 0 ≤ s.2 + 1 ∧ s.2 + 1 ≤ 600; omega, fun k q1 q2 => ?_⟩
    show 1 ≤ rup s.1 s.2 v k.toNat ∧ rup s.1 s.2 v k.toNat ≤ 255
    by_cases e : k = s.2
    · rw [show rup s.1 s.2 v k.toNat = v from rup_hit (by rw [e])]; omega
    · have q2' : k < s.2 + 1 := q2
      have h1 := h.1
      rw [show rup s.1 s.2 v k.toNat = s.1 k.toNat from rup_miss (by omega)]; exact h.2 k q1 (by omega)
theorem BX.add (v : Int) : ∀ (n : Nat) (s : gRow × Int), BX s.1 s.2 → s.2 + qNzN v n ≤ 600 → BX (qAddN v n s).1 (qAddN v n s).2 := by
  intro n
  induction n with
  | zero => intro s h _; exact h
  | succ n ih =>
    intro s h hn
    unfold qNzN at hn
    unfold qAddN
    have := qNzN_rng v n
    exact ih _ (h.put (gand255 _) (by omega)) (by rw [qPut1_2]; omega)
theorem c_bytesIn_lp {v : Int} : ∀ (n : Nat) (c : Int) (fu : Nat), n ≤ 4 → 0 ≤ c → c ≤ 100 - n → n < fu → fX8_bytesIn_5 g fu v c (8 * (n : Int) - 8) = some (c + qNzN v n) := by
  intro n
  induction n with
  | zero =>
    intro c fu hn h0 h1 hf
    obtain ⟨fu, rfl⟩ := fuS hf
    unfold fX8_bytesIn_5 qNzN
    rw [if_pos (by omega), Int.add_zero]
  | succ n ih =>
    intro c fu hn h0 h1 hf
    obtain ⟨fu, rfl⟩ := fuS hf
    unfold fX8_bytesIn_5 qNzN fX8_bytesIn_22 qByte
    rw [show (8 * ((n + 1 : Nat) : Int) - 8) = 8 * (n : Int) by omega]
    simp only [gst_eq]
    rw [gwi_eq (x := 8 * (n : Int) + -8) (by omega) (by omega), gwi_eq (x := c + 1) (by omega) (by omega), show 8 * (n : Int) + -8 = 8 * (n : Int) - 8 by omega, if_neg (by omega)]
    by_cases h : gand (gshr v (8 * (n : Int))) 255 = 0
    · rw [if_pos h, if_pos h, ih c fu (by omega) h0 (by omega) (by omega)]; congr 1; omega
    · rw [if_neg h, if_neg h, ih (c + 1) fu (by omega) (by omega) (by omega) (by omega)]; congr 1; omega
theorem c_bytesIn {v : Int} : fX8_bytesIn g v = some (qNzN v 4) := by
  have := c_bytesIn_lp (g := g) (v := v) 4 0 gF (by omega) (by omega) (by omega) (by unfold gF; omega)
  unfold fX8_bytesIn
  rw [show (24 : Int) = 8 * ((4 : Nat) : Int) - 8 by omega, this]
  congr 1; omega
theorem c_addBytes_lp {v : Int} : ∀ (n : Nat) (s : gRow × Int) (M : gMem) (fu : Nat), n ≤ 4 → BX s.1 s.2 → BC M b s.1 s.2 → s.2 + qNzN v n ≤ 600 → n < fu → ∃ M', fX5_addBytes_3 g fu b v (8 * (n : Int) - 8) M = some M' ∧ BC M' b (qAddN v n s).1 (qAddN v n s).2 ∧ gFb b 2 (b + 1) M M' := by
  intro n
  induction n with
  | zero =>
    intro s M fu hn hX hB hs hf
    obtain ⟨fu, rfl⟩ := fuS hf
    unfold fX5_addBytes_3 qAddN
    rw [if_pos (by omega)]
    exact ⟨M, rfl, hB, gFb.rfl'⟩
  | succ n ih =>
    intro s M fu hn hX hB hs hf
    obtain ⟨fu, rfl⟩ := fuS hf
    have hq := qNzN_rng v n
    have hz := hX.1
    unfold qNzN at hs
    unfold fX5_addBytes_3 qAddN fX5_addBytes_59
    rw [show (8 * ((n + 1 : Nat) : Int) - 8) = 8 * (n : Int) by omega]
    simp only [gst_eq]
    rw [gwi_eq (x := 8 * (n : Int) + -8) (by omega) (by omega), show 8 * (n : Int) + -8 = 8 * (n : Int) - 8 by omega, if_neg (by omega)]
    show ∃ M', (if qByte v (8 * (n : Int)) = 0 then _ else _) = _ ∧ _
    have hb : 0 ≤ qByte v (8 * (n : Int)) ∧ qByte v (8 * (n : Int)) ≤ 255 := gand255 _
    rw [show gand (gshr v (8 * (n : Int))) 255 = qByte v (8 * (n : Int)) from rfl]
    generalize qByte v (8 * (n : Int)) = y at hs hb ⊢
    by_cases h : y = 0
    · have e : qPut1 s y = s := by unfold qPut1; rw [if_pos h]
      rw [if_pos h, e]
      rw [if_pos h] at hs
      exact ih s M fu (by omega) hX hB (by omega) (by omega)
    · have e : qPut1 s y = (rup s.1 s.2 y, s.2 + 1) := by unfold qPut1; rw [if_neg h]
      rw [if_neg h] at hs
      have hX' := hX.put hb (v := y) (by rw [if_neg h]; omega)
      rw [if_neg h, e, hB.1, if_neg (by omega), if_neg (by omega), if_pos (by omega), gup_miss (a := b + 1) (by omega), hB.1, gwi_eq (x := s.2 + 1) (by omega) (by omega), gwb_gwb]
      rw [e] at hX'
      have hB' : BC (gup (gup M (b + 1) s.2.toNat (gwb y)) b 2 (s.2 + 1)) b (rup s.1 s.2 y) (s.2 + 1) := by
        refine ⟨gup_hit rfl rfl, fun k q1 q2 => ?_⟩
        rw [gup_row (by omega), gup_at]
        by_cases ek : k = s.2
        · rw [if_pos (by rw [ek]), show rup s.1 s.2 y k.toNat = y from rup_hit (by rw [ek])]
        · rw [if_neg (by omega), show rup s.1 s.2 y k.toNat = s.1 k.toNat from rup_miss (by omega)]; exact hB.2 k q1 (by omega)
      obtain ⟨M2, e2, B2, F2⟩ := ih (rup s.1 s.2 y, s.2 + 1) _ fu (by omega) hX' hB' (by show s.2 + 1 + qNzN v n ≤ 600; omega) (by omega)
      refine ⟨M2, e2, B2, gFb.trans ⟨fun z q1 q2 => ?_, fun j q => ?_⟩ F2⟩
      · rw [gup_row q1, gup_row q2]
      · rw [gup_miss (fun z => q z.2), gup_row (by omega)]
theorem c_addBytes {v : Int} {s : gRow × Int} (hX : BX s.1 s.2) (hB : BC M b s.1 s.2) (hs : s.2 + qNzN v 4 ≤ 600) : ∃ M', fX5_addBytes g b v M = some M' ∧ BC M' b (qAddN v 4 s).1 (qAddN v 4 s).2 ∧ gFb b 2 (b + 1) M M' := by
  have := c_addBytes_lp (g := g) (v := v) 4 s M gF (by omega) hX hB hs (by unfold gF; omega)
  unfold fX5_addBytes
  rw [show (24 : Int) = 8 * ((4 : Nat) : Int) - 8 by omega]
  exact this
def qApp5 (v1 v2 v3 v4 v5 : Int) (s : gRow × Int) : gRow × Int := qAddN v5 4 (qAddN v4 4 (qAddN v3 4 (qAddN v2 4 (qAddN v1 4 s))))
def qNz5 (v1 v2 v3 v4 v5 : Int) : Int := qNzN v1 4 + qNzN v2 4 + qNzN v3 4 + qNzN v4 4 + qNzN v5 4
def sAppend (v1 v2 v3 v4 v5 : Int) (s : gRow × Int) : (Nat ⊕ Int) × (gRow × Int) :=
  if s.2 + qNz5 v1 v2 v3 v4 v5 ≤ 600 then (.inr (s.2 + qNz5 v1 v2 v3 v4 v5), qApp5 v1 v2 v3 v4 v5 s) else (.inl 1, s)
theorem a_append {v1 v2 v3 v4 v5 : Int} {s : gRow × Int} (hX : BX s.1 s.2) (hB : BC M (a + 785) s.1 s.2) : ∃ M', fX8_append g a v1 v2 v3 v4 v5 M = some ((sAppend v1 v2 v3 v4 v5 s).1, M') ∧ BC M' (a + 785) (sAppend v1 v2 v3 v4 v5 s).2.1 (sAppend v1 v2 v3 v4 v5 s).2.2 ∧ BX (sAppend v1 v2 v3 v4 v5 s).2.1 (sAppend v1 v2 v3 v4 v5 s).2.2 ∧ gFb (a + 785) 2 (a + 786) M M' := by
  have r1 := qNzN_rng v1 4
  have r2 := qNzN_rng v2 4
  have r3 := qNzN_rng v3 4
  have r4 := qNzN_rng v4 4
  have r5 := qNzN_rng v5 4
  have hz := hX.1
  unfold fX8_append sAppend
  rw [c_bytesIn, Option.bind_some, c_bytesIn, Option.bind_some, c_bytesIn, Option.bind_some, c_bytesIn, Option.bind_some, c_bytesIn, Option.bind_some, gst_eq, gwi_eq (x := qNzN v1 4 + qNzN v2 4) (by omega) (by omega), gwi_eq (x := qNzN v1 4 + qNzN v2 4 + qNzN v3 4) (by omega) (by omega), gwi_eq (x := qNzN v1 4 + qNzN v2 4 + qNzN v3 4 + qNzN v4 4) (by omega) (by omega), gwi_eq (x := qNzN v1 4 + qNzN v2 4 + qNzN v3 4 + qNzN v4 4 + qNzN v5 4) (by omega) (by omega), hB.1]
  show ∃ M', (if gwi (s.2 + qNz5 v1 v2 v3 v4 v5) ≤ 600 then _ else _) = _ ∧ _
  have hN : qNz5 v1 v2 v3 v4 v5 = qNzN v1 4 + qNzN v2 4 + qNzN v3 4 + qNzN v4 4 + qNzN v5 4 := rfl
  rw [gwi_eq (by omega) (by omega)]
  by_cases h : s.2 + qNz5 v1 v2 v3 v4 v5 ≤ 600
  · simp only [if_pos h]
    have a1 := qAddN_2 v1 4 s
    have X1 := BX.add v1 4 s hX (by omega)
    obtain ⟨M1, e1, B1, F1⟩ := c_addBytes (g := g) (v := v1) hX hB (by omega)
    have a2 := qAddN_2 v2 4 (qAddN v1 4 s)
    have X2 := BX.add v2 4 (qAddN v1 4 s) X1 (by omega)
    obtain ⟨M2, e2, B2, F2⟩ := c_addBytes (g := g) (v := v2) X1 B1 (by omega)
    have a3 := qAddN_2 v3 4 (qAddN v2 4 (qAddN v1 4 s))
    have X3 := BX.add v3 4 _ X2 (by omega)
    obtain ⟨M3, e3, B3, F3⟩ := c_addBytes (g := g) (v := v3) X2 B2 (by omega)
    have a4 := qAddN_2 v4 4 (qAddN v3 4 (qAddN v2 4 (qAddN v1 4 s)))
    have X4 := BX.add v4 4 _ X3 (by omega)
    obtain ⟨M4, e4, B4, F4⟩ := c_addBytes (g := g) (v := v4) X3 B3 (by omega)
    have a5 := qAddN_2 v5 4 (qAddN v4 4 (qAddN v3 4 (qAddN v2 4 (qAddN v1 4 s))))
    have X5 := BX.add v5 4 _ X4 (by omega)
    obtain ⟨M5, e5, B5, F5⟩ := c_addBytes (g := g) (v := v5) X4 B4 (by omega)
    refine ⟨M5, ?_, B5, X5, (((F1.trans F2).trans F3).trans F4).trans F5⟩
    rw [e1, Option.bind_some, e2, Option.bind_some, e3, Option.bind_some, e4, Option.bind_some, e5, Option.bind_some, B5.1, a5, a4, a3, a2, a1]
    rw [show s.2 + qNzN v1 4 + qNzN v2 4 + qNzN v3 4 + qNzN v4 4 + qNzN v5 4 = s.2 + qNz5 v1 v2 v3 v4 v5 by omega]
  · simp only [if_neg h]
    exact ⟨M, rfl, hB, hX, gFb.rfl'⟩
/-- the twenty bytes -/
def qVal5 (v1 v2 v3 v4 v5 k : Int) : Int := if 4 ≤ k then (if 8 ≤ k then (if 12 ≤ k then (if 16 ≤ k then v5 else v4) else v3) else v2) else v1
def qBt (v1 v2 v3 v4 v5 k : Int) : Int := qByte (qVal5 v1 v2 v3 v4 v5 k) (24 - 8 * (k % 4))
def qRA (f : Int → Int) : Nat → Int → gRow × Int → gRow × Int
  | 0, _, s => s
  | n + 1, k, s => qRA f n (k + 1) (qPut1 s (f k))
def qRC (f : Int → Int) : Nat → Int → Int
  | 0, _ => 0
  | n + 1, k => (if f k = 0 then 0 else 1) + qRC f n (k + 1)
theorem qRA_eq {v1 v2 v3 v4 v5 : Int} {s : gRow × Int} : qRA (qBt v1 v2 v3 v4 v5) 20 0 s = qApp5 v1 v2 v3 v4 v5 s := by rfl
theorem qRC_rng {f : Int → Int} : ∀ (n : Nat) (k : Int), 0 ≤ qRC f n k ∧ qRC f n k ≤ n := by
  intro n
  induction n with
  | zero => intro k; unfold qRC; omega
  | succ n ih => intro k; have := ih (k + 1); unfold qRC; split <;> omega
theorem qRA_2 {f : Int → Int} : ∀ (n : Nat) (k : Int) (s : gRow × Int), (qRA f n k s).2 = s.2 + qRC f n k := by
  intro n
  induction n with
  | zero => intro k s; unfold qRA qRC; omega
  | succ n ih => intro k s; unfold qRA qRC; rw [ih, qPut1_2]; omega
theorem qRC_eq {v1 v2 v3 v4 v5 : Int} : qRC (qBt v1 v2 v3 v4 v5) 20 0 = qNz5 v1 v2 v3 v4 v5 := by
  have h := qRA_2 (f := qBt v1 v2 v3 v4 v5) 20 0 ((fun _ => 0), 0)
  rw [qRA_eq] at h
  unfold qApp5 at h
  rw [qAddN_2, qAddN_2, qAddN_2, qAddN_2, qAddN_2] at h
  unfold qNz5
  simp only at h
  omega
theorem m_byteOf {v1 v2 v3 v4 v5 k : Int} (hk : 0 ≤ k ∧ k < 20) : fX9_byteOf g k v1 v2 v3 v4 v5 = some (qBt v1 v2 v3 v4 v5 k) := by
  have e : ∀ v : Int, fX9_byteOf_42 g k v = some (qByte v (24 - 8 * (k % 4))) := fun v => by
    unfold fX9_byteOf_42 qByte
    rw [tmod_pos hk.1, gwi_eq (x := 8 * (k % 4)) (by omega) (by omega), gwi_eq (x := 24 - 8 * (k % 4)) (by omega) (by omega)]
  unfold fX9_byteOf qBt qVal5
  rw [e, e, e, e, e]
  split
  · split
    · split
      · split <;> rfl
      · rfl
    · rfl
  · rfl
theorem qBt_rng {v1 v2 v3 v4 v5 k : Int} : 0 ≤ qBt v1 v2 v3 v4 v5 k ∧ qBt v1 v2 v3 v4 v5 k ≤ 255 := gand255 _
/-- what append leaves alone in the reference -/
def gFp (a : Nat) (M M' : gMem) : Prop := (∀ y : Nat, ¬ y = a → ¬ y = a + 7 → M' y = M y) ∧ ∀ j : Nat, ¬ j = 7 → ¬ j = 9 → M' a j = M a j
theorem m_app_lp {v1 v2 v3 v4 v5 : Int} : ∀ (n : Nat) (k : Int) (s : gRow × Int) (M : gMem) (fu : Nat), 0 ≤ k → k + n = 20 → BX s.1 s.2 → BM M a s.1 s.2 → s.2 + qRC (qBt v1 v2 v3 v4 v5) n k ≤ 600 → n < fu → ∃ N, fX9_append_78 g fu a v1 v2 v3 v4 v5 k M = some ((qRA (qBt v1 v2 v3 v4 v5) n k s).2, N) ∧ BM N a (qRA (qBt v1 v2 v3 v4 v5) n k s).1 (qRA (qBt v1 v2 v3 v4 v5) n k s).2 ∧ gFb a 9 (a + 7) M N := by
  intro n
  induction n with
  | zero =>
    intro k s M fu h0 hs hX hB hn hf
    obtain ⟨fu, rfl⟩ := fuS hf
    unfold fX9_append_78 qRA
    rw [if_pos (by omega), hB.1]
    exact ⟨M, rfl, hB, gFb.rfl'⟩
  | succ n ih =>
    intro k s M fu h0 hs hX hB hn hf
    obtain ⟨fu, rfl⟩ := fuS hf
    have hq := qRC_rng (f := qBt v1 v2 v3 v4 v5) n (k + 1)
    have hz := hX.1
    have hb := qBt_rng (v1 := v1) (v2 := v2) (v3 := v3) (v4 := v4) (v5 := v5) (k := k)
    unfold qRC at hn
    unfold fX9_append_78 qRA fX9_append_128
    rw [if_neg (by omega), m_byteOf (by omega), Option.bind_some]
    simp only [gst_eq]
    rw [gwi_eq (x := k + 1) (by omega) (by omega)]
    generalize qBt v1 v2 v3 v4 v5 k = y at hn hb ⊢
    by_cases h : y = 0
    · have e : qPut1 s y = s := by unfold qPut1; rw [if_pos h]
      rw [if_pos h, e]
      rw [if_pos h] at hn
      exact ih (k + 1) s M fu (by omega) (by omega) hX hB (by omega) (by omega)
    · have e : qPut1 s y = (rup s.1 s.2 y, s.2 + 1) := by unfold qPut1; rw [if_neg h]
      rw [if_neg h] at hn
      have hX' := hX.put hb (v := y) (by rw [if_neg h]; omega)
      rw [if_neg h, e, hB.1, if_pos (by omega), gup_miss (a := a + 7) (by omega), hB.1, gwi_eq (x := s.2 + 1) (by omega) (by omega)]
      rw [e] at hX'
      have hB' : BM (gup (gup M (a + 7) s.2.toNat y) a 9 (s.2 + 1)) a (rup s.1 s.2 y) (s.2 + 1) := by
        refine ⟨gup_hit rfl rfl, fun k q1 q2 => ?_⟩
        rw [gup_row (by omega), gup_at]
        by_cases ek : k = s.2
        · rw [if_pos (by rw [ek]), show rup s.1 s.2 y k.toNat = y from rup_hit (by rw [ek])]
        · rw [if_neg (by omega), show rup s.1 s.2 y k.toNat = s.1 k.toNat from rup_miss (by omega)]; exact hB.2 k q1 (by omega)
      obtain ⟨M2, e2, B2, F2⟩ := ih (k + 1) (rup s.1 s.2 y, s.2 + 1) _ fu (by omega) (by omega) hX' hB' (by show s.2 + 1 + qRC (qBt v1 v2 v3 v4 v5) n (k + 1) ≤ 600; omega) (by omega)
      refine ⟨M2, e2, B2, gFb.trans ⟨fun z q1 q2 => ?_, fun j q => ?_⟩ F2⟩
      · rw [gup_row q1, gup_row q2]
      · rw [gup_miss (fun z => q z.2), gup_row (by omega)]
theorem m_cnt_lp {v1 v2 v3 v4 v5 : Int} : ∀ (n : Nat) (c k : Int) (fu : Nat), 0 ≤ k → k + n = 20 → 0 ≤ c → c ≤ k → n < fu → fX9_append_6 g fu a v1 v2 v3 v4 v5 c k M = (if gwi (M a 9 + (c + qRC (qBt v1 v2 v3 v4 v5) n k)) ≤ 600 then (fX9_append_63 g a v1 v2 v3 v4 v5 a 0 M) else (fX9_append_63 g a v1 v2 v3 v4 v5 a 1 M)) := by
  intro n
  induction n with
  | zero =>
    intro c k fu h0 hs h1 h2 hf
    obtain ⟨fu, rfl⟩ := fuS hf
    unfold fX9_append_6 qRC
    rw [if_pos (by omega), Int.add_zero]
  | succ n ih =>
    intro c k fu h0 hs h1 h2 hf
    obtain ⟨fu, rfl⟩ := fuS hf
    unfold fX9_append_6 qRC fX9_append_35
    rw [if_neg (by omega), m_byteOf (by omega), Option.bind_some]
    simp only [gst_eq]
    rw [gwi_eq (x := k + 1) (by omega) (by omega), gwi_eq (x := c + 0) (by omega) (by omega), gwi_eq (x := c + 1) (by omega) (by omega)]
    by_cases h : qBt v1 v2 v3 v4 v5 k = 0
    · rw [if_pos h, if_pos h, ih (c + 0) (k + 1) fu (by omega) (by omega) (by omega) (by omega) (by omega), Int.add_zero, Int.zero_add]
    · rw [if_neg h, if_neg h, ih (c + 1) (k + 1) fu (by omega) (by omega) (by omega) (by omega) (by omega), Int.add_assoc]
theorem b_append {v1 v2 v3 v4 v5 : Int} {s : gRow × Int} (hX : BX s.1 s.2) (hB : BM M a s.1 s.2) : ∃ N, fX9_append g a v1 v2 v3 v4 v5 M = some (qWert (sAppend v1 v2 v3 v4 v5 s).1, N) ∧ BM N a (sAppend v1 v2 v3 v4 v5 s).2.1 (sAppend v1 v2 v3 v4 v5 s).2.2 ∧ N a 7 = qThr 1 (sAppend v1 v2 v3 v4 v5 s).1 ∧ gFp a M N := by
  have hz := hX.1
  have hq := qRC_rng (f := qBt v1 v2 v3 v4 v5) 20 0
  unfold fX9_append sAppend
  rw [m_cnt_lp 20 0 0 gF (by omega) (by omega) (by omega) (by omega) (by unfold gF; omega), hB.1, Int.zero_add]
  unfold fX9_append_63
  simp only [gst_eq]
  rw [gwi_eq (by omega) (by omega), gup_hit rfl rfl, gup_hit rfl rfl]
  rw [qRC_eq] at hq ⊢
  by_cases h : s.2 + qNz5 v1 v2 v3 v4 v5 ≤ 600
  · simp only [if_pos h]
    have hB' : BM (gup M a 7 0) a s.1 s.2 := ⟨by rw [gup_miss (by omega)]; exact hB.1, fun k q1 q2 => by rw [gup_row (by omega)]; exact hB.2 k q1 q2⟩
    obtain ⟨N, e, B, F⟩ := m_app_lp (g := g) (v1 := v1) (v2 := v2) (v3 := v3) (v4 := v4) (v5 := v5) 20 0 s (gup M a 7 0) gF (by omega) (by omega) hX hB' (by rw [qRC_eq]; exact h) (by unfold gF; omega)
    rw [qRA_2, qRC_eq] at e
    rw [qRA_eq] at B
    refine ⟨N, by rw [if_pos (Int.le_refl 0)]; exact e, ?_, by rw [F.2 7 (by omega)]; exact gup_hit rfl rfl, ⟨fun y q1 q2 => by rw [F.1 y q1 q2, gup_row q1], fun j q1 q2 => by rw [F.2 j q2, gup_miss (fun z => q1 z.2)]⟩⟩
    exact B
  · simp only [if_neg h]
    rw [if_neg (by omega)]
    exact ⟨_, rfl, ⟨by rw [gup_miss (by omega)]; exact hB.1, fun k q1 q2 => by rw [gup_row (by omega)]; exact hB.2 k q1 q2⟩, gup_hit rfl rfl, ⟨fun y q1 q2 => gup_row q1, fun j q1 q2 => gup_miss (fun z => q1 z.2)⟩⟩
end App
