/-! PURE: the written text, byte by byte -/
/-- the text L in the class's writer, and in the reference's row -/
def WC (M : gMem) (w : Nat) (L : List Int) : Prop := M w 1 = (L.length : Int) ∧ ∀ i : Nat, i < L.length → M (w + 1) i = L.getD i 0
def WM (M : gMem) (a : Nat) (L : List Int) : Prop := M a 19 = (L.length : Int) ∧ ∀ i : Nat, i < L.length → M (a + 8) i = L.getD i 0
/-- the digits of a number up to 999999, and a number's signs -/
def qDL (v : Int) : List Int :=
  if v ≤ 9 then [48 + v] else if v ≤ 99 then [48 + v / 10, 48 + v % 10] else if v ≤ 999 then [48 + v / 100, 48 + v / 10 % 10, 48 + v % 10] else if v ≤ 9999 then [48 + v / 1000, 48 + v / 100 % 10, 48 + v / 10 % 10, 48 + v % 10] else if v ≤ 99999 then [48 + v / 10000, 48 + v / 1000 % 10, 48 + v / 100 % 10, 48 + v / 10 % 10, 48 + v % 10] else [48 + v / 100000, 48 + v / 10000 % 10, 48 + v / 1000 % 10, 48 + v / 100 % 10, 48 + v / 10 % 10, 48 + v % 10]
def qNm1 (v : Int) : List Int := if v < 0 then 45 :: qDL (-v) else qDL v
def qCD : List Int → Int → Int → List Int
  | [], _, _ => []
  | u :: us, v, b => if ¬ b = 0 ∨ ¬ v / u % 10 = 0 ∨ u = 1 then (48 + v / u % 10) :: qCD us v 1 else qCD us v 0
def qRD : Nat → Int → List Int
  | 0, _ => []
  | f + 1, v => (if v ≤ 9 then [] else qRD f (v / 10)) ++ [48 + v % 10]
def gFW (w w1 : Nat) (k : Nat) (M M' : gMem) : Prop := (∀ y : Nat, ¬ y = w → ¬ y = w1 → M' y = M y) ∧ ∀ j : Nat, ¬ j = k → M' w j = M w j
section Write
variable {M M' : gMem} {w a : Nat} {L : List Int} {g : Nat → Nat}
theorem gFW.rfl' {w1 k : Nat} : gFW w w1 k M M := ⟨fun _ _ _ => rfl, fun _ _ => rfl⟩
theorem gFW.trans {w1 k : Nat} {M'' : gMem} (h : gFW w w1 k M M') (h' : gFW w w1 k M' M'') : gFW w w1 k M M'' := ⟨fun y q1 q2 => (h'.1 y q1 q2).trans (h.1 y q1 q2), fun j q => (h'.2 j q).trans (h.2 j q)⟩
theorem qDL_len {v : Int} : (qDL v).length ≤ 6 := by
  unfold qDL
  repeat' split
  all_goals simp
theorem qNm1_len {v : Int} : (qNm1 v).length ≤ 7 := by
  have h1 := qDL_len (v := v)
  have h2 := qDL_len (v := -v)
  unfold qNm1
  split
  · simp only [List.length_cons]; omega
  · omega
theorem getD_app1 {L : List Int} {c : Int} {i : Nat} (h : i < L.length) : (L ++ [c]).getD i 0 = L.getD i 0 := by
  rw [List.getD_eq_getElem?_getD, List.getD_eq_getElem?_getD, List.getElem?_append_left h]
theorem getD_app2 {L : List Int} {c : Int} : (L ++ [c]).getD L.length 0 = c := by
  rw [List.getD_eq_getElem?_getD, List.getElem?_append_right (Nat.le_refl _), Nat.sub_self]
  rfl
theorem c_addByte {c : Int} (hW : WC M w L) (hl : L.length < 2000) (hc : 0 ≤ c ∧ c ≤ 127) : ∃ M', fX7_addByte g w c M = some M' ∧ WC M' w (L ++ [c]) ∧ gFW w (w + 1) 1 M M' := by
  obtain ⟨h1, h2⟩ := hW
  have ec : gwb (gwb c) = c := by unfold gwb; omega
  unfold fX7_addByte
  rw [h1, if_neg (by omega), if_neg (by omega), if_pos (by omega), ec]
  simp only [gst_eq]
  rw [gup_miss (by omega), h1, gwi_eq (by omega) (by omega)]
  refine ⟨_, rfl, ⟨by rw [gup_hit rfl rfl, List.length_append]; simp, fun i hi => ?_⟩, ⟨fun y q1 q2 => by rw [gup_row q1, gup_row q2], fun j q => by rw [gup_miss (fun z => q z.2), gup_row (by omega)]⟩⟩
  rw [List.length_append] at hi
  have hi' : i < L.length + 1 := hi
  rw [gup_row (by omega), gup_at]
  by_cases e : i = L.length
  · rw [if_pos (by omega), e, getD_app2]
  · rw [if_neg (by omega), getD_app1 (by omega)]
    exact h2 i (by omega)
theorem m_writes {c : Int} (hW : WM M a L) (hl : L.length < 2400) : ∃ M', fX9_writes g a c M = some M' ∧ WM M' a (L ++ [c]) ∧ gFW a (a + 8) 19 M M' := by
  obtain ⟨h1, h2⟩ := hW
  unfold fX9_writes
  rw [h1, if_pos (by omega)]
  simp only [gst_eq]
  rw [gup_miss (by omega), h1, gwi_eq (by omega) (by omega)]
  refine ⟨_, rfl, ⟨by rw [gup_hit rfl rfl, List.length_append]; simp, fun i hi => ?_⟩, ⟨fun y q1 q2 => by rw [gup_row q1, gup_row q2], fun j q => by rw [gup_miss (fun z => q z.2), gup_row (by omega)]⟩⟩
  rw [List.length_append] at hi
  have hi' : i < L.length + 1 := hi
  rw [gup_row (by omega), gup_at]
  by_cases e : i = L.length
  · rw [if_pos (by omega), e, getD_app2]
  · rw [if_neg (by omega), getD_app1 (by omega)]
    exact h2 i (by omega)
theorem qCD_s {u v : Int} {us : List Int} (h : v / u % 10 = 0) (hu : ¬ u = 1) : qCD (u :: us) v 0 = qCD us v 0 := by
  show (if ¬ (0 : Int) = 0 ∨ ¬ v / u % 10 = 0 ∨ u = 1 then _ else _) = _
  rw [if_neg (fun z => by rcases z with z | z | z; exact z rfl; exact z h; exact hu z)]
theorem qCD_e {u v : Int} {us : List Int} (h : ¬ v / u % 10 = 0 ∨ u = 1) : qCD (u :: us) v 0 = (48 + v / u % 10) :: qCD us v 1 := by
  show (if ¬ (0 : Int) = 0 ∨ ¬ v / u % 10 = 0 ∨ u = 1 then _ else _) = _
  rw [if_pos (Or.inr h)]
theorem qCD_b {u v : Int} {us : List Int} : qCD (u :: us) v 1 = (48 + v / u % 10) :: qCD us v 1 := by
  show (if ¬ (1 : Int) = 0 ∨ ¬ v / u % 10 = 0 ∨ u = 1 then _ else _) = _
  rw [if_pos (Or.inl (by omega))]
theorem qCD_n {v b : Int} : qCD [] v b = [] := rfl
theorem qRD_s {v : Int} {f : Nat} (h : ¬ v ≤ 9) : qRD (f + 1) v = qRD f (v / 10) ++ [48 + v % 10] := by
  show (if v ≤ 9 then [] else qRD f (v / 10)) ++ [48 + v % 10] = _
  rw [if_neg h]
theorem qRD_0 {v : Int} {f : Nat} (h : v ≤ 9) : qRD (f + 1) v = [48 + v % 10] := by
  show (if v ≤ 9 then [] else qRD f (v / 10)) ++ [48 + v % 10] = _
  rw [if_pos h]
  rfl
theorem qCD_eq {v : Int} (h : 0 ≤ v ∧ v ≤ 999999) : qCD [100000, 10000, 1000, 100, 10, 1] v 0 = qDL v := by
  unfold qDL
  by_cases h1 : v ≤ 9
  · rw [if_pos h1, qCD_s (by omega) (by omega), qCD_s (by omega) (by omega), qCD_s (by omega) (by omega), qCD_s (by omega) (by omega), qCD_s (by omega) (by omega), qCD_e (Or.inr rfl), qCD_n, show v / 1 % 10 = v by omega]
  rw [if_neg h1]
  by_cases h2 : v ≤ 99
  · rw [if_pos h2, qCD_s (by omega) (by omega), qCD_s (by omega) (by omega), qCD_s (by omega) (by omega), qCD_s (by omega) (by omega), qCD_e (Or.inl (by omega)), qCD_b, qCD_n, show v / 10 % 10 = v / 10 by omega, show v / 1 % 10 = v % 10 by omega]
  rw [if_neg h2]
  by_cases h3 : v ≤ 999
  · rw [if_pos h3, qCD_s (by omega) (by omega), qCD_s (by omega) (by omega), qCD_s (by omega) (by omega), qCD_e (Or.inl (by omega)), qCD_b, qCD_b, qCD_n, show v / 100 % 10 = v / 100 by omega, show v / 1 % 10 = v % 10 by omega]
  rw [if_neg h3]
  by_cases h4 : v ≤ 9999
  · rw [if_pos h4, qCD_s (by omega) (by omega), qCD_s (by omega) (by omega), qCD_e (Or.inl (by omega)), qCD_b, qCD_b, qCD_b, qCD_n, show v / 1000 % 10 = v / 1000 by omega, show v / 1 % 10 = v % 10 by omega]
  rw [if_neg h4]
  by_cases h5 : v ≤ 99999
  · rw [if_pos h5, qCD_s (by omega) (by omega), qCD_e (Or.inl (by omega)), qCD_b, qCD_b, qCD_b, qCD_b, qCD_n, show v / 10000 % 10 = v / 10000 by omega, show v / 1 % 10 = v % 10 by omega]
  rw [if_neg h5]
  rw [qCD_e (Or.inl (by omega)), qCD_b, qCD_b, qCD_b, qCD_b, qCD_b, qCD_n, show v / 100000 % 10 = v / 100000 by omega, show v / 1 % 10 = v % 10 by omega]
theorem qRD_eq {v : Int} (h : 0 ≤ v ∧ v ≤ 999999) : qRD 6 v = qDL v := by
  unfold qDL
  by_cases h1 : v ≤ 9
  · rw [if_pos h1, qRD_0 (by omega), show v % 10 = v by omega]
  rw [if_neg h1]
  by_cases h2 : v ≤ 99
  · rw [if_pos h2, qRD_s (by omega), qRD_0 (by omega), show v / 10 % 10 = v / 10 by omega]
    rfl
  rw [if_neg h2]
  by_cases h3 : v ≤ 999
  · rw [if_pos h3, qRD_s (by omega), qRD_s (by omega), qRD_0 (by omega), show v / 10 / 10 % 10 = v / 100 by omega]
    rfl
  rw [if_neg h3]
  by_cases h4 : v ≤ 9999
  · rw [if_pos h4, qRD_s (by omega), qRD_s (by omega), qRD_s (by omega), qRD_0 (by omega), show v / 10 / 10 / 10 % 10 = v / 1000 by omega, show v / 10 / 10 % 10 = v / 100 % 10 by omega]
    rfl
  rw [if_neg h4]
  by_cases h5 : v ≤ 99999
  · rw [if_pos h5, qRD_s (by omega), qRD_s (by omega), qRD_s (by omega), qRD_s (by omega), qRD_0 (by omega), show v / 10 / 10 / 10 / 10 % 10 = v / 10000 by omega, show v / 10 / 10 / 10 % 10 = v / 1000 % 10 by omega, show v / 10 / 10 % 10 = v / 100 % 10 by omega]
    rfl
  rw [if_neg h5]
  rw [qRD_s (by omega), qRD_s (by omega), qRD_s (by omega), qRD_s (by omega), qRD_s (by omega), qRD_0 (by omega), show v / 10 / 10 / 10 / 10 / 10 % 10 = v / 100000 by omega, show v / 10 / 10 / 10 / 10 % 10 = v / 10000 % 10 by omega, show v / 10 / 10 / 10 % 10 = v / 1000 % 10 by omega, show v / 10 / 10 % 10 = v / 100 % 10 by omega]
  rfl
/-- units that fall by tens to 1 -/
def qUnits : List Int → Prop
  | [] => True
  | u :: us => (1 ≤ u ∧ u ≤ 100000) ∧ u / 10 = us.headD 0 ∧ qUnits us
theorem c_units_lp {v : Int} (hv : 0 ≤ v ∧ v ≤ 999999) : ∀ (us : List Int) (b : Int) (M : gMem) (L : List Int) (fu : Nat), qUnits us → WC M w L → L.length + us.length ≤ 2000 → us.length < fu → ∃ M', fX7_addNumber_27 g fu w v b (us.headD 0) M = some M' ∧ WC M' w (L ++ qCD us v b) ∧ gFW w (w + 1) 1 M M' := by
  intro us
  induction us with
  | nil =>
    intro b M L fu hu hW hl hf
    obtain ⟨fu, rfl⟩ := fuS hf
    unfold fX7_addNumber_27 qCD
    rw [if_pos (show ([] : List Int).headD 0 < 1 by decide), List.append_nil]
    exact ⟨M, rfl, hW, gFW.rfl'⟩
  | cons u us ih =>
    intro b M L fu hu hW hl hf
    obtain ⟨fu, rfl⟩ := fuS hf
    obtain ⟨h1, h2, h3⟩ := hu
    simp only [List.length_cons] at hl hf
    have ed : v.tdiv u = v / u := Int.tdiv_eq_ediv_of_nonneg hv.1
    have eu : u.tdiv 10 = u / 10 := Int.tdiv_eq_ediv_of_nonneg (by omega)
    have hq : 0 ≤ v / u := Int.ediv_nonneg hv.1 (by omega)
    have hq2 : v / u ≤ v := Int.ediv_le_self u hv.1
    have em : (v / u).tmod 10 = v / u % 10 := tmod_pos hq
    have hr1 : 0 ≤ v / u % 10 := Int.emod_nonneg _ (by omega)
    have hr2 : v / u % 10 < 10 := Int.emod_lt_of_pos _ (by omega)
    show ∃ M', fX7_addNumber_27 g (fu + 1) w v b u M = some M' ∧ _
    unfold fX7_addNumber_27 fX7_addNumber_57 fX7_addNumber_62 fX7_addNumber_76 qCD
    simp only [gst_eq]
    rw [if_neg (show ¬ u < 1 by omega), if_pos (show ¬ u = 0 by omega), ed, gwi_eq (x := v / u) (by omega) (by omega), em, eu, h2, gwi_eq (x := us.headD 0) (by omega) (by omega), gwi_eq (x := 48 + v / u % 10) (by omega) (by omega)]
    generalize v / u % 10 = dd at hr1 hr2 ⊢
    have out : ∃ M', (if (1 : Int) = 0 then (fX7_addNumber_27 g fu w v 1 (us.headD 0) M) else ((fX7_addByte g w (48 + dd) M).bind fun M_3 => fX7_addNumber_27 g fu w v 1 (us.headD 0) M_3)) = some M' ∧ WC M' w (L ++ (48 + dd) :: qCD us v 1) ∧ gFW w (w + 1) 1 M M' := by
      obtain ⟨M1, e1, W1, F1⟩ := c_addByte (g := g) (c := 48 + dd) hW (by omega) (by omega)
      obtain ⟨M2, e2, W2, F2⟩ := ih 1 M1 (L ++ [48 + dd]) fu h3 W1 (by simp only [List.length_append, List.length_cons, List.length_nil]; omega) (by omega)
      rw [if_neg (by omega), e1, Option.bind_some]
      rw [List.append_assoc] at W2
      exact ⟨M2, e2, W2, F1.trans F2⟩
    by_cases c1 : b = 0
    · rw [if_pos c1]
      by_cases c2 : dd = 0
      · rw [if_pos c2]
        by_cases c3 : u = 1
        · rw [if_pos c3, if_pos (Or.inr (Or.inr c3))]; exact out
        · rw [if_neg c3, if_pos trivial, if_neg (fun z => by rcases z with z | z | z <;> omega)]
          exact ih 0 M L fu h3 hW (by omega) (by omega)
      · rw [if_neg c2, if_pos (Or.inr (Or.inl c2))]; exact out
    · rw [if_neg c1, if_pos (Or.inl c1)]; exact out
theorem c_addNum {v : Int} (hv : -999999 ≤ v ∧ v ≤ 999999) (hW : WC M w L) (hl : L.length + 7 ≤ 2000) : ∃ M', fX7_addNumber g w v M = some M' ∧ WC M' w (L ++ qNm1 v) ∧ gFW w (w + 1) 1 M M' := by
  have hU : qUnits [100000, 10000, 1000, 100, 10, 1] := by
    refine ⟨by omega, rfl, by omega, rfl, by omega, rfl, by omega, rfl, by omega, rfl, by omega, rfl, trivial⟩
  unfold fX7_addNumber fX7_addNumber_10 fX7_addNumber_20 qNm1
  by_cases h0 : 0 ≤ v
  · obtain ⟨M1, e1, W1, F1⟩ := c_units_lp (g := g) (v := v) (by omega) [100000, 10000, 1000, 100, 10, 1] 0 M L gF hU hW (by simp only [List.length_cons, List.length_nil]; omega) (by simp only [List.length_cons, List.length_nil]; unfold gF; omega)
    rw [qCD_eq (by omega)] at W1
    rw [if_pos h0, if_pos h0, if_neg (show ¬ v < 0 by omega)]
    exact ⟨M1, e1, W1, F1⟩
  · obtain ⟨M0, e0, W0, F0⟩ := c_addByte (g := g) (c := 45) hW (by omega) (by omega)
    obtain ⟨M1, e1, W1, F1⟩ := c_units_lp (g := g) (v := -v) (by omega) [100000, 10000, 1000, 100, 10, 1] 0 M0 (L ++ [45]) gF hU W0 (by simp only [List.length_append, List.length_cons, List.length_nil]; omega) (by simp only [List.length_cons, List.length_nil]; unfold gF; omega)
    rw [qCD_eq (by omega), List.append_assoc] at W1
    rw [if_neg h0, e0, Option.bind_some, if_neg h0, if_pos (show v < 0 by omega), gwi_eq (by omega) (by omega)]
    exact ⟨M1, e1, W1, F0.trans F1⟩
theorem m_digs : ∀ (f : Nat) (v : Int) (M : gMem) (L : List Int) (fu : Nat), 0 ≤ v → v < 10 ^ f → v ≤ 999999 → 1 ≤ f → f ≤ 6 → f ≤ fu → WM M a L → L.length + f ≤ 2400 → ∃ M', fX9_writesNumber g fu a v M = some M' ∧ WM M' a (L ++ qRD f v) ∧ gFW a (a + 8) 19 M M' := by
  intro f
  induction f with
  | zero => intro v M L fu h0 h1 h2 h3 h4 h5 hW hl; omega
  | succ f ih =>
    intro v M L fu h0 h1 h2 h3 h4 h5 hW hl
    obtain ⟨fu, rfl⟩ := fuS (show 0 < fu by omega)
    have em : v.tmod 10 = v % 10 := tmod_pos h0
    have ed : v.tdiv 10 = v / 10 := Int.tdiv_eq_ediv_of_nonneg h0
    unfold fX9_writesNumber qRD
    rw [if_pos h0, if_pos h0, em, ed, gwi_eq (x := 48 + v % 10) (by omega) (by omega), gwi_eq (x := v / 10) (by omega) (by omega)]
    by_cases h9 : v ≤ 9
    · obtain ⟨M1, e1, W1, F1⟩ := m_writes (g := g) (c := 48 + v % 10) hW (by omega)
      rw [if_pos h9, if_pos h9, List.nil_append, e1]
      exact ⟨M1, rfl, W1, F1⟩
    · have hf1 : 1 ≤ f := by
        rcases Nat.eq_zero_or_pos f with e | e
        · rw [e] at h1; have : v < 10 := h1; omega
        · exact e
      have hp : (10 : Int) ^ (f + 1) = 10 ^ f * 10 := Int.pow_succ 10 f
      obtain ⟨M1, e1, W1, F1⟩ := ih (v / 10) M L fu (by omega) (by omega) (by omega) hf1 (by omega) (by omega) hW (by omega)
      have hlen : (qRD f (v / 10)).length ≤ f := by
        have : ∀ (f : Nat) (v : Int), (qRD f v).length ≤ f := by
          intro f
          induction f with
          | zero => intro v; exact Nat.le_refl 0
          | succ f ih2 =>
            intro v
            unfold qRD
            have := ih2 (v / 10)
            split
            · simp
            · simp only [List.length_append, List.length_cons, List.length_nil]; omega
        exact this f _
      obtain ⟨M2, e2, W2, F2⟩ := m_writes (g := g) (c := 48 + v % 10) W1 (by simp only [List.length_append]; omega)
      rw [if_neg h9, if_neg h9, e1, Option.bind_some, e2, ← List.append_assoc]
      exact ⟨M2, rfl, W2, F1.trans F2⟩
theorem m_wnum {v : Int} (hv : -999999 ≤ v ∧ v ≤ 999999) (hW : WM M a L) (hl : L.length + 7 ≤ 2400) : ∃ M', fX9_writesNumber g 12 a v M = some M' ∧ WM M' a (L ++ qNm1 v) ∧ gFW a (a + 8) 19 M M' := by
  unfold qNm1
  by_cases h0 : 0 ≤ v
  · obtain ⟨M1, e1, W1, F1⟩ := m_digs (g := g) 6 v M L 12 h0 (by omega) (by omega) (by omega) (by omega) (by omega) hW (by omega)
    rw [qRD_eq (by omega)] at W1
    rw [if_neg (show ¬ v < 0 by omega)]
    exact ⟨M1, e1, W1, F1⟩
  · obtain ⟨M0, e0, W0, F0⟩ := m_writes (g := g) (c := 45) hW (by omega)
    obtain ⟨M1, e1, W1, F1⟩ := m_digs (g := g) 6 (-v) M0 (L ++ [45]) 12 (by omega) (by omega) (by omega) (by omega) (by omega) (by omega) W0 (by simp only [List.length_append, List.length_cons, List.length_nil]; omega)
    rw [qRD_eq (by omega), List.append_assoc] at W1
    have e2 : fX9_writesNumber g (11 + 1) a (-v) M0 = some M1 := e1
    unfold fX9_writesNumber at e2
    rw [if_pos (show 0 ≤ -v by omega), if_pos (show 0 ≤ -v by omega)] at e2
    show ∃ M', fX9_writesNumber g (11 + 1) a v M = some M' ∧ _
    unfold fX9_writesNumber
    rw [if_neg h0, e0, Option.bind_some, if_neg h0, gst_eq, gwi_eq (x := -v) (by omega) (by omega), e2, if_pos (show v < 0 by omega)]
    exact ⟨M1, rfl, W1, F0.trans F1⟩
end Write
