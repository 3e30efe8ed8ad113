/-! PURE: what the token at hand is, asked on both sides -/
def qTO (x : gRow) (n ps pb kd dg : Int) : Prop :=
  (0 ≤ ps ∧ ps ≤ pb ∧ pb ≤ n) ∧ (0 ≤ dg ∧ dg ≤ 10000000) ∧ (0 ≤ kd ∧ kd ≤ 3) ∧ (kd = 3 → ps = n ∧ pb = n) ∧ (¬ kd = 3 → ps < pb) ∧ (kd = 0 → ∀ k : Int, 0 ≤ k → k < pb - ps → 97 ≤ tw x ps k ∧ tw x ps k ≤ 122) ∧ (kd = 2 → 1 ≤ x ps.toNat ∧ x ps.toNat ≤ 255)
def TK (Mc : gMem) (b : Nat) (Mm : gMem) (a : Nat) (x : gRow) (n ps pb kd dg : Int) : Prop := BC Mc b x n ∧ BM Mm a x n ∧ CT Mc b x ps pb kd dg ∧ MT Mm a ps pb kd dg ∧ qTO x n ps pb kd dg
def qIsW (x : gRow) (ps pb kd : Int) (L : List Int) : Prop := kd = 0 ∧ pb - ps = (L.length : Int) ∧ ∀ k : Int, 0 ≤ k → k < L.length → tw x ps k = L.getD k.toNat 0
def qSg (x : gRow) (ps kd c : Int) : Prop := kd = 2 ∧ x ps.toNat = c
def qNE (kd dg lo hi : Int) : Int := if kd = 1 then (if lo ≤ dg ∧ dg ≤ hi then 0 else -3) else -2
/-- an error e at the position p, told by the class, and by the reference -/
def gEc (M : gMem) (b : Nat) (e p : Int) : gMem := gup (gup M b 3 e) b 4 p
def gEm (M : gMem) (a : Nat) (e p : Int) : gMem := gup (gup M a 14 e) a 15 p
section Tok
variable {M M' Mc Mm Mc' Mm' : gMem} {b a : Nat} {x : gRow} {n ps pb kd dg : Int} {g : Nat → Nat}
theorem qDig_rng : ∀ (k : Nat) (p d : Int), 0 ≤ d → d ≤ 10000000 → 0 ≤ qDig x k p d ∧ qDig x k p d ≤ 10000000 := by
  intro k
  induction k with
  | zero => intro p d h1 h2; exact ⟨h1, h2⟩
  | succ k ih =>
    intro p d h1 h2
    unfold qDig
    split
    · exact ih _ _ (by unfold gmin; split <;> omega) (by unfold gmin; split <;> omega)
    · exact ⟨h1, h2⟩
theorem qTO_of (hX : BX x n) {p : Int} (h0 : 0 ≤ p ∧ p ≤ n) : qTO x n (qNs x n p) (qNe x n p) (qNk x n p) (qNd x n p) ∧ p ≤ qNs x n p := by
  obtain ⟨s1, s2, s3⟩ := qRun_spec (P := qSpB) (x := x) (n - p).toNat p
  have es : qRun qSpB x (n - p).toNat p = qNs x n p := rfl
  rw [es] at s1 s2 s3
  unfold qNe qNk qNd
  generalize qNs x n p = s at *
  refine ⟨?_, by omega⟩
  by_cases he : n ≤ s
  · simp only [if_pos he]
    exact ⟨by omega, by omega, by omega, fun _ => by omega, fun h => absurd rfl h, fun h => by omega, fun h => by omega⟩
  · simp only [if_neg he]
    have hv := hX.2 s (by omega) (by omega)
    have hd := qDig_rng (x := x) (n - s).toNat s 0 (by omega) (by omega)
    have ek : (n - s).toNat = (n - s - 1).toNat + 1 := by omega
    by_cases hl : qLeB (x s.toNat) = true
    · simp only [if_pos hl]
      obtain ⟨t1, t2, t3⟩ := qRun_spec (P := qLeB) (x := x) (n - s).toNat s
      have hlt : s < qRun qLeB x (n - s).toNat s := by
        rw [ek]
        unfold qRun
        rw [if_pos hl]
        have := (qRun_spec (P := qLeB) (x := x) (n - s - 1).toNat (s + 1)).1
        omega
      exact ⟨by omega, by omega, by omega, fun h => by omega, fun _ => hlt, fun _ k q1 q2 => of_decide_eq_true (t2 (s + k) (by omega) (by omega)), fun h => by omega⟩
    · simp only [if_neg hl]
      by_cases hdi : qDiB (x s.toNat) = true
      · simp only [if_pos hdi]
        obtain ⟨t1, t2, t3⟩ := qRun_spec (P := qDiB) (x := x) (n - s).toNat s
        have hlt : s < qRun qDiB x (n - s).toNat s := by
          rw [ek]
          unfold qRun
          rw [if_pos hdi]
          have := (qRun_spec (P := qDiB) (x := x) (n - s - 1).toNat (s + 1)).1
          omega
        exact ⟨by omega, hd, by omega, fun h => by omega, fun _ => hlt, fun h => by omega, fun h => by omega⟩
      · simp only [if_neg hdi]
        exact ⟨by omega, hd, by omega, fun h => by omega, fun _ => by omega, fun h => by omega, fun _ => hv⟩
theorem TK.c5 (h : TK Mc b Mm a x n ps pb kd dg) : Mc b 5 = pb := h.2.2.1.1
theorem TK.c6 (h : TK Mc b Mm a x n ps pb kd dg) : Mc b 6 = ps := h.2.2.1.2.1
theorem TK.m10 (h : TK Mc b Mm a x n ps pb kd dg) : Mm a 10 = ps := h.2.2.2.1.1
theorem TK.m11 (h : TK Mc b Mm a x n ps pb kd dg) : Mm a 11 = pb := h.2.2.2.1.2.1
theorem TK.m12 (h : TK Mc b Mm a x n ps pb kd dg) : Mm a 12 = kd := h.2.2.2.1.2.2.1
theorem TK.m13 (h : TK Mc b Mm a x n ps pb kd dg) : Mm a 13 = dg := h.2.2.2.1.2.2.2.1
theorem TK.m14 (h : TK Mc b Mm a x n ps pb kd dg) : Mm a 14 = 0 := h.2.2.2.1.2.2.2.2
theorem TK.to (h : TK Mc b Mm a x n ps pb kd dg) : qTO x n ps pb kd dg := h.2.2.2.2
theorem TK.cong (h : TK Mc b Mm a x n ps pb kd dg) (c1 : ∀ j : Nat, j = 2 ∨ (5 ≤ j ∧ j ≤ 9) → Mc' b j = Mc b j) (c2 : Mc' (b + 1) = Mc (b + 1)) (m1 : ∀ j : Nat, 9 ≤ j → j ≤ 14 → Mm' a j = Mm a j) (m2 : Mm' (a + 7) = Mm (a + 7)) : TK Mc' b Mm' a x n ps pb kd dg := by
  obtain ⟨h1, h2, ⟨t1, t2, t3, t4, t5⟩, ⟨u1, u2, u3, u4, u5⟩, h5⟩ := h
  refine ⟨⟨by rw [c1 2 (by omega)]; exact h1.1, fun k q1 q2 => by rw [c2]; exact h1.2 k q1 q2⟩, ⟨by rw [m1 9 (by omega) (by omega)]; exact h2.1, fun k q1 q2 => by rw [m2]; exact h2.2 k q1 q2⟩, ⟨?_, ?_, ?_, fun q => ?_, fun q => ?_⟩, ⟨?_, ?_, ?_, ?_, ?_⟩, h5⟩
  · rw [c1 5 (by omega)]; exact t1
  · rw [c1 6 (by omega)]; exact t2
  · rw [c1 7 (by omega)]; exact t3
  · rw [c1 8 (by omega)]; exact t4 q
  · rw [c1 9 (by omega)]; exact t5 q
  · rw [m1 10 (by omega) (by omega)]; exact u1
  · rw [m1 11 (by omega) (by omega)]; exact u2
  · rw [m1 12 (by omega) (by omega)]; exact u3
  · rw [m1 13 (by omega) (by omega)]; exact u4
  · rw [m1 14 (by omega) (by omega)]; exact u5
theorem TK.cc (h : TK Mc b Mm a x n ps pb kd dg) (c1 : ∀ j : Nat, j = 2 ∨ (5 ≤ j ∧ j ≤ 9) → Mc' b j = Mc b j) (c2 : Mc' (b + 1) = Mc (b + 1)) : TK Mc' b Mm a x n ps pb kd dg := h.cong c1 c2 (fun _ _ _ => rfl) rfl
theorem TK.mm (h : TK Mc b Mm a x n ps pb kd dg) (m1 : ∀ j : Nat, 9 ≤ j → j ≤ 14 → Mm' a j = Mm a j) (m2 : Mm' (a + 7) = Mm (a + 7)) : TK Mc b Mm' a x n ps pb kd dg := h.cong (fun _ _ => rfl) rfl m1 m2
theorem t_next (hX : BX x n) (h : TK Mc b Mm a x n ps pb kd dg) : ∃ Mc' Mm' ps' pb' kd' dg', fX5_next g b Mc = some Mc' ∧ fX9_next g a Mm = some Mm' ∧ TK Mc' b Mm' a x n ps' pb' kd' dg' ∧ pb ≤ ps' ∧ gF5 b Mc Mc' ∧ gF9 a Mm Mm' := by
  have ht := h.to
  have hp : 0 ≤ pb ∧ pb ≤ n := by have := ht.1; omega
  obtain ⟨Mc', e1, T1, F1⟩ := c_tok (g := g) hX h.1 h.c5 hp
  obtain ⟨Mm', e2, T2, F2⟩ := m_tok (g := g) hX h.2.1 h.m11 h.m14 hp
  obtain ⟨O, q⟩ := qTO_of hX hp
  exact ⟨Mc', Mm', _, _, _, _, e1, e2, ⟨h.1.f5 F1, h.2.1.f9 F2, T1, T2, O⟩, q, F1, F2⟩
theorem glcmp_0 {x y : Int} : glcmp x y = 0 ↔ x = y := by
  unfold glcmp
  split
  · constructor <;> intro h <;> omega
  · split
    · exact ⟨fun _ => by assumption, fun _ => rfl⟩
    · constructor <;> intro h <;> omega
theorem t7 (h : TK Mc b Mm a x n ps pb kd dg) : (Mc b 7 = 256 ↔ kd = 0) ∧ (Mc b 7 = 257 ↔ kd = 1) ∧ (Mc b 7 = -1 ↔ kd = 3) ∧ ∀ c : Int, 1 ≤ c → c ≤ 255 → (Mc b 7 = c ↔ qSg x ps kd c) := by
  have h3 := h.2.2.1.2.2.1
  obtain ⟨-, -, hk, -, -, -, hv⟩ := h.to
  unfold qSg
  rw [h3]
  by_cases k0 : kd = 0
  · rw [if_pos k0]; exact ⟨by omega, by omega, by omega, fun c q1 q2 => by omega⟩
  · rw [if_neg k0]
    by_cases k1 : kd = 1
    · rw [if_pos k1]; exact ⟨by omega, by omega, by omega, fun c q1 q2 => by omega⟩
    · rw [if_neg k1]
      by_cases k3 : kd = 3
      · rw [if_pos k3]; exact ⟨by omega, by omega, by omega, fun c q1 q2 => by omega⟩
      · rw [if_neg k3]
        have := hv (by omega)
        exact ⟨by omega, by omega, by omega, fun c q1 q2 => by omega⟩
theorem qIsW_pack {t : Nat} (ht : t ≤ 20) (h : TK Mc b Mm a x n ps pb kd dg) (k0 : kd = 0) : Mc b 8 = qPack (gtl t) (gtx t).length ↔ qIsW x ps pb kd (gtx t) := by
  obtain ⟨hl, hb⟩ := gtx_by ht
  have h8 := h.2.2.1.2.2.2.1 k0
  have hle := h.to.2.2.2.2.2.1 k0
  have h1 := h.to.1
  rw [h8]
  by_cases hc : pb - ps ≤ 8
  · rw [if_pos hc]
    have hbt : qBytes (tw x ps) (pb - ps).toNat := fun k q1 q2 => by have := hle k q1 (by omega); omega
    constructor
    · intro he
      obtain ⟨e1, e2⟩ := qPack_inj _ _ hbt hb he
      exact ⟨k0, by omega, fun k q1 q2 => e2 k q1 (by omega)⟩
    · rintro ⟨-, e1, e2⟩
      have : (pb - ps).toNat = (gtx t).length := by omega
      rw [this]
      exact qPack_congr _ (fun k q1 q2 => e2 k q1 q2)
  · rw [if_neg hc]
    constructor
    · intro he; exact absurd he.symm (qPack_pos hb hl.1)
    · rintro ⟨-, e1, -⟩; omega
theorem c_isW {t : Nat} (ht : t ≤ 20) (h : TK Mc b Mm a x n ps pb kd dg) (hw : qIsW x ps pb kd (gtx t)) : fX5_isWord g b t Mc = some 1 := by
  unfold fX5_isWord
  rw [if_pos ((t7 h).1.mpr hw.1), c_letters ht, Option.bind_some, if_pos (glcmp_0.mpr ((qIsW_pack ht h hw.1).mpr hw))]
theorem c_isW0 {t : Nat} (ht : t ≤ 20) (h : TK Mc b Mm a x n ps pb kd dg) (hw : ¬ qIsW x ps pb kd (gtx t)) : fX5_isWord g b t Mc = some 0 := by
  unfold fX5_isWord
  by_cases k0 : kd = 0
  · rw [if_pos ((t7 h).1.mpr k0), c_letters ht, Option.bind_some, if_neg (fun z => hw ((qIsW_pack ht h k0).mp (glcmp_0.mp z)))]
  · rw [if_neg (fun z => k0 ((t7 h).1.mp z))]
theorem m_isW_lp {L : List Int} {t : Nat} (hL : gtx t = L) (hl : L.length ≤ 7) (hB : BM Mm a x n) (h10 : Mm a 10 = ps) (hps : 0 ≤ ps ∧ ps + (L.length : Int) ≤ n) (hn : n ≤ 600) : ∀ (k : Nat) (i : Int) (fu : Nat), 0 ≤ i → i + k = (L.length : Int) → k < fu → ((∀ j : Int, i ≤ j → j < L.length → tw x ps j = L.getD j.toNat 0) → fX9_isWord_34 g fu a t i Mm = some 1) ∧ ((¬ ∀ j : Int, i ≤ j → j < L.length → tw x ps j = L.getD j.toNat 0) → fX9_isWord_34 g fu a t i Mm = some 0) := by
  intro k
  induction k with
  | zero =>
    intro i fu h0 hs hf
    obtain ⟨fu, rfl⟩ := fuS hf
    unfold fX9_isWord_34
    rw [hL, if_pos (by omega)]
    exact ⟨fun _ => rfl, fun z => absurd (fun j q1 q2 => by omega) z⟩
  | succ k ih =>
    intro i fu h0 hs hf
    obtain ⟨fu, rfl⟩ := fuS hf
    have e : Mm (a + 7) (ps + i).toNat = tw x ps i := hB.2 (ps + i) (by omega) (by omega)
    obtain ⟨i1, i2⟩ := ih (i + 1) fu (by omega) (by omega) (by omega)
    unfold fX9_isWord_34
    rw [hL, h10, if_neg (by omega), gwi_eq (x := ps + i) (by omega) (by omega), if_pos (by omega), if_pos (by omega), e]
    by_cases hc : tw x ps i = L.getD i.toNat 0
    · rw [if_pos hc, gst_eq, gwi_eq (by omega) (by omega)]
      refine ⟨fun z => i1 (fun j q1 q2 => z j (by omega) q2), fun z => i2 (fun y => z (fun j q1 q2 => ?_))⟩
      by_cases ej : j = i
      · rw [ej]; exact hc
      · exact y j (by omega) q2
    · rw [if_neg hc]
      exact ⟨fun z => absurd (z i (by omega) (by omega)) hc, fun _ => rfl⟩
theorem m_isWB {t : Nat} (hX : BX x n) (hl : (gtx t).length ≤ 7) (h : TK Mc b Mm a x n ps pb kd dg) : (qIsW x ps pb kd (gtx t) → fX9_isWord g a t Mm = some 1) ∧ (¬ qIsW x ps pb kd (gtx t) → fX9_isWord g a t Mm = some 0) := by
  have hn := hX.1
  have h1 := h.to.1
  unfold fX9_isWord
  rw [h.m14, h.m12, h.m11, h.m10, if_pos rfl, gwi_eq (by omega) (by omega)]
  by_cases k0 : kd = 0
  · rw [if_pos k0]
    by_cases hc : pb - ps = ((gtx t).length : Int)
    · rw [if_pos hc]
      obtain ⟨i1, i2⟩ := m_isW_lp (g := g) (ps := ps) rfl hl h.2.1 h.m10 (by omega) hn.2 (gtx t).length 0 gF (by omega) (by omega) (by unfold gF; omega)
      exact ⟨fun z => i1 z.2.2, fun z => i2 (fun y => z ⟨k0, hc, y⟩)⟩
    · rw [if_neg hc]
      exact ⟨fun z => absurd z.2.1 hc, fun _ => rfl⟩
  · rw [if_neg k0]
    exact ⟨fun z => absurd z.1 k0, fun _ => rfl⟩
theorem gtx_40 {t : Nat} (ht : t ≤ 20) : gtx (t + 40) = gtx t := by
  have h : ∀ t : Fin 21, gtx (t.val + 40) = gtx t.val := by decide +kernel
  exact h ⟨t, by omega⟩
theorem m_isW {t : Nat} (ht : t ≤ 20) (hX : BX x n) (h : TK Mc b Mm a x n ps pb kd dg) (hw : qIsW x ps pb kd (gtx t)) : fX9_isWord g a (t + 40) Mm = some 1 := by
  have := (gtx_by ht).1
  exact (m_isWB hX (by rw [gtx_40 ht]; omega) h).1 (by rw [gtx_40 ht]; exact hw)
theorem m_isW0 {t : Nat} (ht : t ≤ 20) (hX : BX x n) (h : TK Mc b Mm a x n ps pb kd dg) (hw : ¬ qIsW x ps pb kd (gtx t)) : fX9_isWord g a (t + 40) Mm = some 0 := by
  have := (gtx_by ht).1
  exact (m_isWB hX (by rw [gtx_40 ht]; omega) h).2 (by rw [gtx_40 ht]; exact hw)
theorem m_isWx {t : Nat} (hw : ¬ Mm a 14 = 0) : fX9_isWord g a t Mm = some 0 := by
  unfold fX9_isWord
  rw [if_neg hw]
theorem m_isS1 {c : Int} (hX : BX x n) (hc : 1 ≤ c) (h : TK Mc b Mm a x n ps pb kd dg) : fX9_isSign g a c Mm = some (if kd = 2 ∧ x ps.toNat = c then 1 else 0) := by
  have hn := hX.1
  have h1 := h.to
  unfold fX9_isSign
  rw [h.m14, h.m12, h.m10, if_pos rfl]
  by_cases k2 : kd = 2
  · have := h1.2.2.2.2.1 (by omega)
    have := h1.1
    rw [if_pos k2, m_see h.2.1 hn.2 (by omega), Option.bind_some, if_pos (show ps < n by omega)]
    by_cases hx : x ps.toNat = c
    · rw [if_pos hx, if_pos ⟨k2, hx⟩]
    · rw [if_neg hx, if_neg (fun z => hx z.2)]
  · rw [if_neg k2, if_neg (fun z => k2 z.1)]
theorem m_isSx {c : Int} (hw : ¬ Mm a 14 = 0) : fX9_isSign g a c Mm = some 0 := by
  unfold fX9_isSign
  rw [if_neg hw]
theorem m_fails {e : Int} (h : Mm a 14 = 0) : fX9_fails g a e Mm = some (gEm Mm a e (Mm a 10)) := by
  unfold fX9_fails gEm
  rw [if_pos h, gst_eq, gst_eq, gup_miss (show ¬ (a = a ∧ 10 = 14) by omega)]
theorem m_failsx {e : Int} (h : ¬ Mm a 14 = 0) : fX9_fails g a e Mm = some Mm := by
  unfold fX9_fails
  rw [if_neg h]
theorem gEm_14 {e p : Int} : gEm Mm a e p a 14 = e := by unfold gEm; rw [gup_miss (by omega)]; exact gup_hit rfl rfl
theorem gEm_15 {e p : Int} : gEm Mm a e p a 15 = p := gup_hit rfl rfl
theorem gEm_row {e p : Int} {y : Nat} (h : ¬ y = a) : gEm Mm a e p y = Mm y := by unfold gEm; rw [gup_row h, gup_row h]
theorem gEm_o {e p : Int} {j : Nat} (h : ¬ j = 14) (h2 : ¬ j = 15) : gEm Mm a e p a j = Mm a j := by unfold gEm; rw [gup_miss (fun z => h2 z.2), gup_miss (fun z => h z.2)]
theorem m_must1 (h : Mm a 14 = 0) : fX9_must g a 1 Mm = fX9_next g a Mm := by
  unfold fX9_must fX9_must_10
  rw [if_neg (by omega), if_pos h]
  cases fX9_next g a Mm <;> rfl
theorem m_must0 (h : Mm a 14 = 0) : fX9_must g a 0 Mm = some (gEm Mm a (-2) (Mm a 10)) := by
  unfold fX9_must fX9_must_10
  rw [if_pos rfl, m_fails h, Option.bind_some, if_neg (by rw [gEm_14]; omega)]
theorem m_mustx {v : Int} (h : ¬ Mm a 14 = 0) : fX9_must g a v Mm = some Mm := by
  unfold fX9_must fX9_must_10
  rw [if_neg h, m_failsx h, Option.bind_some, if_neg h]
  split <;> rfl
theorem m_standsx {lo hi : Int} (h : ¬ Mm a 14 = 0) : fX9_stands g a lo hi Mm = some (0, Mm) := by
  unfold fX9_stands fX9_stands_21 fX9_stands_46
  rw [if_neg h, if_neg h, if_neg h]
theorem m_stands {lo hi : Int} (h14 : Mm a 14 = 0) (h12 : Mm a 12 = kd) (h13 : Mm a 13 = dg) (h10 : Mm a 10 = ps) : fX9_stands g a lo hi Mm = some (if qNE kd dg lo hi = 0 then (dg, Mm) else (0, gEm Mm a (qNE kd dg lo hi) ps)) := by
  unfold fX9_stands fX9_stands_21 fX9_stands_46 qNE
  rw [if_pos h14, if_pos h14, h12, h13, m_isIn, Option.bind_some]
  by_cases k1 : kd = 1
  · rw [if_pos k1]
    simp only [if_pos k1]
    by_cases hr : lo ≤ dg ∧ dg ≤ hi
    · rw [if_neg (by rw [qB_t hr]; omega), if_pos h14, if_pos hr, if_pos rfl]
    · rw [if_pos (qB_f hr), m_fails h14, Option.bind_some, if_neg (by rw [gEm_14]; omega), if_neg hr, if_neg (by omega), h10]
  · rw [if_neg k1]
    simp only [if_neg k1]
    rw [m_fails h14, Option.bind_some, if_neg (by rw [gEm_14]; omega), if_neg (by rw [gEm_14]; omega), if_neg (by omega), h10]
theorem m_takesx {lo hi : Int} (h : ¬ Mm a 14 = 0) : fX9_takes g a lo hi Mm = some (0, Mm) := by
  unfold fX9_takes
  rw [m_standsx h, Option.bind_some, gst_eq, if_neg h]
theorem m_takes1 {lo hi : Int} (h : TK Mc b Mm a x n ps pb kd dg) (hq : qNE kd dg lo hi = 0) : fX9_takes g a lo hi Mm = (fX9_next g a Mm).bind fun M_7 => some (dg, M_7) := by
  unfold fX9_takes
  rw [m_stands h.m14 h.m12 h.m13 h.m10, if_pos hq, Option.bind_some, gst_eq, if_pos h.m14]
theorem m_takes0 {lo hi : Int} (h : TK Mc b Mm a x n ps pb kd dg) (hq : ¬ qNE kd dg lo hi = 0) : fX9_takes g a lo hi Mm = some (0, gEm Mm a (qNE kd dg lo hi) ps) := by
  unfold fX9_takes
  rw [m_stands h.m14 h.m12 h.m13 h.m10, if_neg hq, Option.bind_some, gst_eq, if_neg (show ¬ gEm Mm a (qNE kd dg lo hi) ps a 14 = 0 by rw [gEm_14]; exact hq)]
theorem c_fails {e p : Int} : fX5_fails g b e p M = some (0, gEc M b e p) := rfl
theorem gEc_3 {e p : Int} : gEc M b e p b 3 = e := by unfold gEc; rw [gup_miss (by omega)]; exact gup_hit rfl rfl
theorem gEc_4 {e p : Int} : gEc M b e p b 4 = p := gup_hit rfl rfl
theorem gEc_row {e p : Int} {y : Nat} (h : ¬ y = b) : gEc M b e p y = M y := by unfold gEc; rw [gup_row h, gup_row h]
theorem gEc_o {e p : Int} {j : Nat} (h : ¬ j = 3) (h2 : ¬ j = 4) : gEc M b e p b j = M b j := by unfold gEc; rw [gup_miss (fun z => h2 z.2), gup_miss (fun z => h z.2)]
theorem c_num {lo hi : Int} (hh : 0 ≤ lo ∧ lo ≤ 100 ∧ hi ≤ 999999) (h : TK Mc b Mm a x n ps pb kd dg) : fX5_takeNumber g b lo hi Mc = if qNE kd dg lo hi = 0 then (fX5_next g b (gup Mc b 10 dg)).bind fun M_10 => some (1, M_10) else some (0, gEc Mc b (qNE kd dg lo hi) ps) := by
  have hd := h.to.2.1
  unfold fX5_takeNumber fX5_takeNumber_37 qNE
  by_cases k1 : kd = 1
  · have h9 := h.2.2.1.2.2.2.2 k1
    rw [if_pos ((t7 h).2.1.mpr k1), h9, h.c6]
    simp only [if_pos k1]
    by_cases hr : lo ≤ dg ∧ dg ≤ hi
    · have e : gmin dg 1000000 = dg := by unfold gmin; rw [if_neg (by omega)]
      rw [e, if_neg (by omega), if_pos hr.2, gst_eq, if_pos hr, if_pos rfl]
    · rw [if_neg hr, c_fails]
      by_cases c1 : gmin dg 1000000 < lo
      · rw [if_pos c1]; rfl
      · have c2 : ¬ gmin dg 1000000 ≤ hi := by
          unfold gmin at c1 ⊢
          split at c1 <;> split <;> omega
        rw [if_neg c1, if_neg c2]; rfl
  · rw [if_neg (fun z => k1 ((t7 h).2.1.mp z)), h.c6]
    simp only [if_neg k1]
    rw [if_neg (by omega), c_fails]
    rfl
theorem c_sign1 {c : Int} (hc : 1 ≤ c ∧ c ≤ 255) (h : TK Mc b Mm a x n ps pb kd dg) (hs : kd = 2 ∧ x ps.toNat = c) : fX5_takeSign g b c Mc = (fX5_next g b Mc).bind fun M_4 => some (1, M_4) := by
  unfold fX5_takeSign
  rw [if_pos (((t7 h).2.2.2 c hc.1 hc.2).mpr hs)]
theorem c_sign0 {c : Int} (hc : 1 ≤ c ∧ c ≤ 255) (h : TK Mc b Mm a x n ps pb kd dg) (hs : ¬ (kd = 2 ∧ x ps.toNat = c)) : fX5_takeSign g b c Mc = some (0, gEc Mc b (-2) ps) := by
  unfold fX5_takeSign
  rw [if_neg (fun z => hs (((t7 h).2.2.2 c hc.1 hc.2).mp z)), c_fails, h.c6]
  rfl
theorem c_word1 {t : Nat} (ht : t ≤ 20) (h : TK Mc b Mm a x n ps pb kd dg) (hw : qIsW x ps pb kd (gtx t)) : fX5_takeWord g b t Mc = (fX5_next g b Mc).bind fun M_5 => some (1, M_5) := by
  unfold fX5_takeWord
  rw [c_isW ht h hw, Option.bind_some, if_neg (by omega)]
theorem c_word0 {t : Nat} (ht : t ≤ 20) (h : TK Mc b Mm a x n ps pb kd dg) (hw : ¬ qIsW x ps pb kd (gtx t)) : fX5_takeWord g b t Mc = some (0, gEc Mc b (-2) ps) := by
  unfold fX5_takeWord
  rw [c_isW0 ht h hw, Option.bind_some, if_pos rfl, c_fails, h.c6]
  rfl
end Tok
