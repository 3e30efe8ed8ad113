/-! PURE: put and allow -/
def sPut (r : gRow) (s x : Int) : (Nat ⊕ Int) × Bool × gRow :=
  if 0 ≤ s ∧ s < r 2 then (if -999999 ≤ x ∧ x ≤ 999999 then (if rs r s 1 < rs r s 0 then (.inr (rs r s 1 + 1), true, qPush r s x) else (.inr (-11), false, r)) else (.inl 2, false, r)) else (.inl 3, false, r)
def qMask (m k x : Int) : Int := if x = 0 then gand m (gxor (gshl 1 k) (-1)) else gor m (gshl 1 k)
def sAllow (r : gRow) (p k x : Int) : (Nat ⊕ Int) × Bool × gRow :=
  if 0 ≤ p ∧ p < r 1 then (if 0 ≤ k ∧ k < r 0 then (.inr (qMask (rp r p 5) k x), true, rsp r p 5 (qMask (rp r p 5) k x)) else (.inl 3, false, r)) else (.inl 3, false, r)
theorem qMask_dec : ∀ m : Fin 16, ∀ k : Fin 4, (0 ≤ gand (m.val : Int) (gxor (gshl 1 (k.val : Int)) (-1)) ∧ gand (m.val : Int) (gxor (gshl 1 (k.val : Int)) (-1)) ≤ 15) ∧ 0 ≤ gor (m.val : Int) (gshl 1 (k.val : Int)) ∧ gor (m.val : Int) (gshl 1 (k.val : Int)) ≤ 15 := by decide
theorem qMask_rng {m k x : Int} (hm : 0 ≤ m ∧ m ≤ 15) (hk : 0 ≤ k ∧ k < 4) : 0 ≤ qMask m k x ∧ qMask m k x ≤ 15 := by
  have := qMask_dec ⟨m.toNat, by omega⟩ ⟨k.toNat, by omega⟩
  have e1 : ((m.toNat : Nat) : Int) = m := by omega
  have e2 : ((k.toNat : Nat) : Int) = k := by omega
  simp only [e1, e2] at this
  unfold qMask
  split
  · exact this.1
  · exact this.2
section Change3
variable {M M' : gMem} {a : Nat} {r : gRow} {K K' n : Int} {kept : Nat → gRow} {g : Nat → Nat}
theorem a_put (hO : qOK r K) (hD : DR M (a + 1) r K) (hKC : KC M (a + 131) n kept K) (hn : 0 ≤ n ∧ n ≤ 8) {s x : Int} : ∃ M', fX8_put g a s x M = some ((sPut r s x).1, M') ∧ DR M' (a + 1) (sPut r s x).2.2 K ∧ qOK (sPut r s x).2.2 K ∧ KC M' (a + 131) (qN (sPut r s x).2.1 n) (qK (sPut r s x).2.1 r kept) K ∧ gFd a M M' := by
  have h2 := hO.2.2.1
  unfold fX8_put sPut
  rw [c_exS hO hD]
  by_cases hs : 0 ≤ s ∧ s < r 2
  · rw [if_pos hs, if_pos hs]
    show ∃ M', (if x < -999999 then _ else _) = _ ∧ _
    by_cases hx : -999999 ≤ x ∧ x ≤ 999999
    · rw [if_neg (by omega), if_pos hx.2, if_pos hx, c_isFull (hD.2.2.1 s hs.1 hs.2), Option.bind_some]
      by_cases hf : rs r s 1 < rs r s 0
      · obtain ⟨M1, e1, D1, K1, F1⟩ := c_keep (g := g) hO hD hKC hn
        obtain ⟨M2, e2, D2, F2⟩ := c_addTop (g := g) (v := x) hO D1 hs hf
        obtain ⟨C1, C2, C3, C4⟩ := qOK_push' hO hs hf hx
        rw [if_pos hf, if_pos hf, if_pos rfl, e1, Option.bind_some, e2, Option.bind_some, (D2.2.2.1 s hs.1 (by rw [C2]; exact hs.2)).2.1, C4]
        exact ⟨M2, rfl, D2, C1, K1.desk F2 (Int.le_refl K), F1.trans F2.gFd⟩
      · rw [if_neg hf, if_neg hf, if_neg (by omega)]
        exact ⟨M, rfl, hD, hO, hKC, gFd.rfl'⟩
    · rw [if_neg hx]
      refine ⟨M, ?_, hD, hO, hKC, gFd.rfl'⟩
      by_cases h1 : x < -999999
      · rw [if_pos h1]
      · rw [if_neg h1, if_neg (by omega)]
  · rw [if_neg hs, if_neg hs]
    exact ⟨M, rfl, hD, hO, hKC, gFd.rfl'⟩
theorem b_put (l1 : g (a + 1) / 16 - 1 = 1190) (l4 : g (a + 4) / 16 - 1 = 9520) (hO : qOK r K) (hK : KM M a n kept) {s x : Int} : ∃ N, fX9_put g a s x (mrow M (a + 1) r) = some (qWert (sPut r s x).1, mrow N (a + 1) (sPut r s x).2.2) ∧ KM N a (qN (sPut r s x).2.1 n) (qK (sPut r s x).2.1 r kept) ∧ N a 7 = qThr 3 (sPut r s x).1 ∧ gFm a M N := by
  have h2 := hO.2.2.1
  unfold fX9_put sPut
  rw [m_isS h2, Option.bind_some]
  unfold fX9_put_30
  by_cases hs : 0 ≤ s ∧ s < r 2
  · have hl := hO.len hs.1 hs.2
    have hb := (hO.2.2.2.2.2.2.2 s hs.1 hs.2).2.1.2
    have h16 := (hO.2.2.2.2.2.2.2 s hs.1 hs.2).1.2
    rw [if_neg (by rw [qB_t hs]; omega), m_isIn, Option.bind_some, if_pos hs]
    by_cases hx : -999999 ≤ x ∧ x ≤ 999999
    · rw [if_neg (by rw [qB_t hx]; omega), if_pos hx, gst_eq, mrow_a7, mrow_7, if_pos (Int.le_refl 0), m_ofS (by omega) (by omega), Option.bind_some, m_ofS (by omega) (by omega), Option.bind_some]
      by_cases hf : rs r s 1 < rs r s 0
      · obtain ⟨N, e1, K1, F1, v7⟩ := m_keep (g := g) (r := r) l1 l4 (hK.a7 (v := 0))
        have e2 : rs (qPush r s x) s 1 = rs r s 1 + 1 := rs_rss_eq
        rw [if_neg (by omega), if_pos hf, e1, Option.bind_some, m_pushes (by omega) (by omega), Option.bind_some, m_ofS (by omega) (by omega), Option.bind_some, e2]
        exact ⟨N, rfl, K1, v7.trans (gup_hit rfl rfl), gFm.a7.trans F1⟩
      · rw [if_pos (by omega), if_neg hf]
        exact ⟨_, rfl, hK.a7, gup_hit rfl rfl, gFm.a7⟩
    · rw [if_pos (qB_f hx), if_neg hx, gst_eq, mrow_a7, mrow_7, if_neg (by omega)]
      exact ⟨_, rfl, hK.a7, gup_hit rfl rfl, gFm.a7⟩
  · rw [if_pos (qB_f hs), if_neg hs, gst_eq, mrow_a7, mrow_7, if_neg (by omega)]
    exact ⟨_, rfl, hK.a7, gup_hit rfl rfl, gFm.a7⟩
theorem a_allow (hO : qOK r K) (hD : DR M (a + 1) r K) (hKC : KC M (a + 131) n kept K) (hn : 0 ≤ n ∧ n ≤ 8) {p k x : Int} : ∃ M', fX8_allow g a p k x M = some ((sAllow r p k x).1, M') ∧ DR M' (a + 1) (sAllow r p k x).2.2 K ∧ qOK (sAllow r p k x).2.2 K ∧ KC M' (a + 131) (qN (sAllow r p k x).2.1 n) (qK (sAllow r p k x).2.1 r kept) K ∧ gFd a M M' := by
  have h0 := hO.1
  have h1 := hO.2.1
  unfold fX8_allow sAllow fX8_checkSlot fX0_hasSlot
  rw [c_exP hO hD, hD.1.1]
  by_cases hp : 0 ≤ p ∧ p < r 1
  · rw [if_pos hp, if_pos hp]
    by_cases hk : 0 ≤ k ∧ k < r 0
    · obtain ⟨M1, e1, D1, K1, F1⟩ := c_keep (g := g) hO hD hKC hn
      have hP := D1.2.1 p hp.1 hp.2
      have hm := (hO.p hp).2.2.2.2.2.1
      have hr := qMask_rng (m := rp r p 5) (k := k) (x := x) hm (by omega)
      have O2 := qOK_rsp (k := 5) (v := qMask (rp r p 5) k x) hO (Int.le_refl K) hp (by unfold qVal; omega)
      have D2 := DR_p (k := 5) (v := qMask (rp r p 5) k x) hO D1 hp (by omega) (Int.le_refl K)
      have c5 : cf 5 = 6 := by decide
      rw [c5] at D2
      have F2 : gFr (a + 1) M1 (gup M1 (a + 1 + 1 + (8 + 4 * p.toNat)) 6 (qMask (rp r p 5) k x)) := gFr.up (by omega)
      rw [if_neg (by omega), if_neg (by omega), if_pos hk]
      refine ⟨gup M1 (a + 1 + 1 + (8 + 4 * p.toNat)) 6 (qMask (rp r p 5) k x), ?_, D2, O2, K1.desk F2 (Int.le_refl K), F1.trans F2.gFd⟩
      show ((fX1_remember g (a + 131) (a + 1) M).bind fun M_8 => _) = _
      unfold fX8_allow_55
      rw [e1, Option.bind_some, gst_eq, hP.f.2.2.2.2.2.1]
      by_cases hx : x = 0
      · have e : qMask (rp r p 5) k x = gand (rp r p 5) (gxor (gshl 1 k) (-1)) := if_pos hx
        rw [if_pos hx, e, gst_eq, gup_hit rfl rfl]
      · have e : qMask (rp r p 5) k x = gor (rp r p 5) (gshl 1 k) := if_neg hx
        rw [if_neg hx, e, gst_eq, gup_hit rfl rfl]
    · rw [if_neg hk]
      refine ⟨M, ?_, hD, hO, hKC, gFd.rfl'⟩
      by_cases hk0 : k < 0
      · rw [if_pos hk0]; rfl
      · rw [if_neg hk0, if_pos (by omega)]; rfl
  · rw [if_neg hp, if_neg hp]
    exact ⟨M, rfl, hD, hO, hKC, gFd.rfl'⟩
theorem b_allow (l1 : g (a + 1) / 16 - 1 = 1190) (l4 : g (a + 4) / 16 - 1 = 9520) (hO : qOK r K) (hK : KM M a n kept) {p k x : Int} : ∃ N, fX9_allow g a p k x (mrow M (a + 1) r) = some (qWert (sAllow r p k x).1, mrow N (a + 1) (sAllow r p k x).2.2) ∧ KM N a (qN (sAllow r p k x).2.1 n) (qK (sAllow r p k x).2.1 r kept) ∧ N a 7 = qThr 3 (sAllow r p k x).1 ∧ gFm a M N := by
  have h0 := hO.1
  have h1 := hO.2.1
  unfold fX9_allow sAllow
  rw [m_isP h1, Option.bind_some]
  unfold fX9_allow_21 fX9_allow_22 fX9_allow_74
  by_cases hp : 0 ≤ p ∧ p < r 1
  · rw [if_neg (by rw [qB_t hp]; omega), m_isSl h0, Option.bind_some, if_pos hp]
    by_cases hk : 0 ≤ k ∧ k < r 0
    · obtain ⟨N, e1, K1, F1, v7⟩ := m_keep (g := g) (r := r) l1 l4 (hK.a7 (v := 0))
      rw [if_neg (by rw [qB_t hk]; omega), if_pos hk, gst_eq, mrow_a7, mrow_7, if_pos (Int.le_refl 0), e1, Option.bind_some, m_of (by omega) (by omega), Option.bind_some, Option.bind_some, m_sets (by omega) (by omega), Option.bind_some, m_of (by omega) (by omega), Option.bind_some, m_sets (by omega) (by omega), Option.bind_some, m_of (by omega) (by omega), Option.bind_some, rp_rsp_eq, rp_rsp_eq]
      refine ⟨N, ?_, K1, v7.trans (gup_hit rfl rfl), gFm.a7.trans F1⟩
      unfold qMask
      by_cases hx : x = 0
      · rw [if_pos hx, if_pos hx]; rfl
      · rw [if_neg hx, if_neg hx]; rfl
    · rw [if_pos (qB_f hk), if_neg hk, gst_eq, mrow_a7, mrow_7, if_neg (by omega)]
      exact ⟨_, rfl, hK.a7, gup_hit rfl rfl, gFm.a7⟩
  · rw [if_pos (qB_f hp), if_neg hp, gst_eq, mrow_a7, mrow_7, if_neg (by omega)]
    exact ⟨_, rfl, hK.a7, gup_hit rfl rfl, gFm.a7⟩
end Change3
