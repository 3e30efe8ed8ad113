def fX9_next_120 (g : Nat → Nat)  : Nat → Nat → gMem → Option gMem
  | 0, _, _ => none
  | fu + 1, a0, M => (fX9_isDigit g a0 (M a0 11) M).bind fun x_3 => if x_3 = 0 then (gst (gup M a0 12 1) fun M_5 => some M_5) else ((fX9_see g a0 (M a0 11) M).bind fun x_9 => gst (gup M a0 13 (gmin 10000000 (gwi (gwi (gwi (10 * M a0 13) + x_9) - 48)))) fun M_10 => gst (gup M_10 a0 11 (gwi (M_10 a0 11 + 1))) fun M_12 => fX9_next_120 g fu a0 M_12)
set_option maxHeartbeats 4000000 in
set_option maxRecDepth 100000 in
theorem wX9_next_120 {w : gW} {n : Nat} {Rm : Nat → Nat → Nat} {g : Nat → Nat} (hLC : gLC g n Rm) {p : Program} {l : Launch} {e : Env} {s : State} {m : MethodId} {args : Array Value} {below : List Frame} {meth : Method} {c : Code} (hM : gMC w p l s m args meth c cX9_next 1 RX9 none)  : ∀ (fu : Nat), ∀ (a0 : Nat) (M : gMem) (r : gMem) (hg0 : g a0 = 9) (hf : fX9_next_120 g fu a0 M = some r) (H : Heap) (locs : List Loc) (ls : Array Slot) (hH : gH w n Rm M s H locs) (hl : lv_has ls 1 [(0, .ref (w.1 + a0))]), W p l e { frames := 3, cells := 0, slots := 0, locals := 103 } s m args below meth c H locs 0 0 (gQ w n Rm below args s 0 0 (.inr none) r True) (F0 m 120 ls []) := by
  intro fu
  induction fu with
  | zero =>
    intro a0 M r hg0 hf H locs ls hH hl
    exact absurd hf (by simp [fX9_next_120])
  | succ fu ih =>
    intro a0 M r hg0 hf H locs ls hH hl
    unfold fX9_next_120 at hf
    refine lv_aload_n hM.fx.1 hM.fx.2.1 dX9_next_120 rfl (lv_at hl 0 rfl) ?_
    refine lv_aload_n hM.fx.1 hM.fx.2.1 dX9_next_121 rfl (lv_at hl 0 rfl) ?_
    refine r_getI hM.fx hM.kf hH fl_X9_75 (hLC.in hg0 (by decide)) dX9_next_122 ?_
    have hr_1 := hH.2.2.i (hLC.in hg0 (by decide)).2.2 (by decide : glg 9 11 = false)
    obtain ⟨x_3, ex_3, hf⟩ := gbd hf
    refine r_go1 hH rfl (r_runV (As := [.int (gi (M a0 11))]) hM hH cv_X9_91 (mX9_isDigit hLC hM.ns hg0 hr_1 ex_3) (hLC.in hg0 (by decide)) (by decide) rfl rfl rfl hl.1 rfl (Nat.le_of_ble_eq_true rfl) ⟨(Nat.le_of_ble_eq_true rfl), (Nat.le_of_ble_eq_true rfl)⟩ ⟨(Nat.le_of_ble_eq_true rfl), (Nat.le_of_ble_eq_true rfl)⟩ dX9_next_125) (fun hp_2 H locs hH => ?_)
    refine r_if_eq (tgt := 172) hM.fx (gz_r hp_2) dX9_next_128 (by decide) (fun h_4 => ?_) (fun h_4 => ?_)
    · have hf := gpos h_4 hf
      refine lv_aload_n hM.fx.1 hM.fx.2.1 dX9_next_172 rfl (lv_at hl 0 rfl) ?_
      refine lv_iconst (v := gi (1)) hM.fx.1 hM.fx.2.1 dX9_next_173 rfl ?_
      refine r_putI hM.fx hM.kf hH fp_X9_84 (hLC.in hg0 (by decide)) (gcR (k := 1) (by decide)) dX9_next_174 (fun H locs hH => ?_)
      obtain ⟨M_5, eM_5, hf⟩ := gst_s hf
      rw [← eM_5] at hH
      refine lv_goto (tgt := 195) hM.fx.1 hM.fx.2.1 dX9_next_177 (by decide) ?_
      obtain rfl := Option.some.inj hf
      exact r_vret hM hH trivial ⟨(Nat.le_of_ble_eq_true rfl), (Nat.le_of_ble_eq_true rfl)⟩ dX9_next_195
    · have hf := gneg' h_4 hf
      refine lv_aload_n hM.fx.1 hM.fx.2.1 dX9_next_131 rfl (lv_at hl 0 rfl) ?_
      refine r_ldc (x := 10000000) hM.fx gw_1330 (by decide) dX9_next_132 ?_
      refine lv_bipush (v := gi (10)) hM.fx.1 hM.fx.2.1 dX9_next_134 (by decide) ?_
      refine lv_aload_n hM.fx.1 hM.fx.2.1 dX9_next_136 rfl (lv_at hl 0 rfl) ?_
      refine r_getI hM.fx hM.kf hH fl_X9_81 (hLC.in hg0 (by decide)) dX9_next_137 ?_
      have hr_6 := hH.2.2.i (hLC.in hg0 (by decide)).2.2 (by decide : glg 9 13 = false)
      refine r_imul hM.fx dX9_next_140 ?_
      refine lv_aload_n hM.fx.1 hM.fx.2.1 dX9_next_141 rfl (lv_at hl 0 rfl) ?_
      refine lv_aload_n hM.fx.1 hM.fx.2.1 dX9_next_142 rfl (lv_at hl 0 rfl) ?_
      refine r_getI hM.fx hM.kf hH fl_X9_75 (hLC.in hg0 (by decide)) dX9_next_143 ?_
      have hr_7 := hH.2.2.i (hLC.in hg0 (by decide)).2.2 (by decide : glg 9 11 = false)
      obtain ⟨x_9, ex_9, hf⟩ := gbd hf
      refine r_go1 hH rfl (r_runV (As := [.int (gi (M a0 11))]) hM hH cv_X9_71 (mX9_see hLC hM.ns hg0 hr_7 ex_9) (hLC.in hg0 (by decide)) (by decide) rfl rfl rfl hl.1 rfl (Nat.le_of_ble_eq_true rfl) ⟨(Nat.le_of_ble_eq_true rfl), (Nat.le_of_ble_eq_true rfl)⟩ ⟨(Nat.le_of_ble_eq_true rfl), (Nat.le_of_ble_eq_true rfl)⟩ dX9_next_146) (fun hp_8 H locs hH => ?_)
      refine r_iadd hM.fx dX9_next_149 ?_
      refine lv_bipush (v := gi (48)) hM.fx.1 hM.fx.2.1 dX9_next_150 (by decide) ?_
      refine r_isub hM.fx dX9_next_152 ?_
      refine r_mmin hM.fx hl.1 ⟨gw_1331, gw_445, gw_105, gw_446⟩ ⟨(Nat.le_of_ble_eq_true rfl), (Nat.le_of_ble_eq_true rfl)⟩ ⟨(Nat.le_of_ble_eq_true rfl), (Nat.le_of_ble_eq_true rfl)⟩ (gcR (k := 10000000) (by decide)) (gwi_r _) dX9_next_153 ?_
      refine r_putI hM.fx hM.kf hH fp_X9_81 (hLC.in hg0 (by decide)) (gmin_r (gcR (k := 10000000) (by decide)) (gwi_r _)) dX9_next_156 (fun H locs hH => ?_)
      obtain ⟨M_10, eM_10, hf⟩ := gst_s hf
      rw [← eM_10] at hH
      refine lv_aload_n hM.fx.1 hM.fx.2.1 dX9_next_159 rfl (lv_at hl 0 rfl) ?_
      refine lv_dup hM.fx.1 hM.fx.2.1 dX9_next_160 rfl ?_
      refine r_getI hM.fx hM.kf hH fl_X9_75 (hLC.in hg0 (by decide)) dX9_next_161 ?_
      have hr_11 := hH.2.2.i (hLC.in hg0 (by decide)).2.2 (by decide : glg 9 11 = false)
      refine lv_iconst (v := gi (1)) hM.fx.1 hM.fx.2.1 dX9_next_164 rfl ?_
      refine r_iadd hM.fx dX9_next_165 ?_
      refine r_putI hM.fx hM.kf hH fp_X9_75 (hLC.in hg0 (by decide)) (gwi_r _) dX9_next_166 (fun H locs hH => ?_)
      obtain ⟨M_12, eM_12, hf⟩ := gst_s hf
      rw [← eM_12] at hH
      refine lv_goto (tgt := 120) hM.fx.1 hM.fx.2.1 dX9_next_169 (by decide) ?_
      exact ih _ _ _ hg0 hf _ _ _ hH hl
def fX9_next_77 (g : Nat → Nat)  : Nat → Nat → gMem → Option gMem
  | 0, _, _ => none
  | fu + 1, a0, M => (fX9_isLetter g a0 (M a0 11) M).bind fun x_3 => if x_3 = 0 then (gst (gup M a0 12 0) fun M_5 => some M_5) else (gst (gup M a0 11 (gwi (M a0 11 + 1))) fun M_7 => fX9_next_77 g fu a0 M_7)
set_option maxHeartbeats 4000000 in
set_option maxRecDepth 100000 in
theorem wX9_next_77 {w : gW} {n : Nat} {Rm : Nat → Nat → Nat} {g : Nat → Nat} (hLC : gLC g n Rm) {p : Program} {l : Launch} {e : Env} {s : State} {m : MethodId} {args : Array Value} {below : List Frame} {meth : Method} {c : Code} (hM : gMC w p l s m args meth c cX9_next 1 RX9 none)  : ∀ (fu : Nat), ∀ (a0 : Nat) (M : gMem) (r : gMem) (hg0 : g a0 = 9) (hf : fX9_next_77 g fu a0 M = some r) (H : Heap) (locs : List Loc) (ls : Array Slot) (hH : gH w n Rm M s H locs) (hl : lv_has ls 1 [(0, .ref (w.1 + a0))]), W p l e { frames := 3, cells := 0, slots := 0, locals := 103 } s m args below meth c H locs 0 0 (gQ w n Rm below args s 0 0 (.inr none) r True) (F0 m 77 ls []) := by
  intro fu
  induction fu with
  | zero =>
    intro a0 M r hg0 hf H locs ls hH hl
    exact absurd hf (by simp [fX9_next_77])
  | succ fu ih =>
    intro a0 M r hg0 hf H locs ls hH hl
    unfold fX9_next_77 at hf
    refine lv_aload_n hM.fx.1 hM.fx.2.1 dX9_next_77 rfl (lv_at hl 0 rfl) ?_
    refine lv_aload_n hM.fx.1 hM.fx.2.1 dX9_next_78 rfl (lv_at hl 0 rfl) ?_
    refine r_getI hM.fx hM.kf hH fl_X9_75 (hLC.in hg0 (by decide)) dX9_next_79 ?_
    have hr_1 := hH.2.2.i (hLC.in hg0 (by decide)).2.2 (by decide : glg 9 11 = false)
    obtain ⟨x_3, ex_3, hf⟩ := gbd hf
    refine r_go1 hH rfl (r_runV (As := [.int (gi (M a0 11))]) hM hH cv_X9_87 (mX9_isLetter hLC hM.ns hg0 hr_1 ex_3) (hLC.in hg0 (by decide)) (by decide) rfl rfl rfl hl.1 rfl (Nat.le_of_ble_eq_true rfl) ⟨(Nat.le_of_ble_eq_true rfl), (Nat.le_of_ble_eq_true rfl)⟩ ⟨(Nat.le_of_ble_eq_true rfl), (Nat.le_of_ble_eq_true rfl)⟩ dX9_next_82) (fun hp_2 H locs hH => ?_)
    refine r_if_eq (tgt := 101) hM.fx (gz_r hp_2) dX9_next_85 (by decide) (fun h_4 => ?_) (fun h_4 => ?_)
    · have hf := gpos h_4 hf
      refine lv_aload_n hM.fx.1 hM.fx.2.1 dX9_next_101 rfl (lv_at hl 0 rfl) ?_
      refine lv_iconst (v := gi (0)) hM.fx.1 hM.fx.2.1 dX9_next_102 rfl ?_
      refine r_putI hM.fx hM.kf hH fp_X9_84 (hLC.in hg0 (by decide)) (gcR (k := 0) (by decide)) dX9_next_103 (fun H locs hH => ?_)
      obtain ⟨M_5, eM_5, hf⟩ := gst_s hf
      rw [← eM_5] at hH
      refine lv_goto (tgt := 195) hM.fx.1 hM.fx.2.1 dX9_next_106 (by decide) ?_
      obtain rfl := Option.some.inj hf
      exact r_vret hM hH trivial ⟨(Nat.le_of_ble_eq_true rfl), (Nat.le_of_ble_eq_true rfl)⟩ dX9_next_195
    · have hf := gneg' h_4 hf
      refine lv_aload_n hM.fx.1 hM.fx.2.1 dX9_next_88 rfl (lv_at hl 0 rfl) ?_
      refine lv_dup hM.fx.1 hM.fx.2.1 dX9_next_89 rfl ?_
      refine r_getI hM.fx hM.kf hH fl_X9_75 (hLC.in hg0 (by decide)) dX9_next_90 ?_
      have hr_6 := hH.2.2.i (hLC.in hg0 (by decide)).2.2 (by decide : glg 9 11 = false)
      refine lv_iconst (v := gi (1)) hM.fx.1 hM.fx.2.1 dX9_next_93 rfl ?_
      refine r_iadd hM.fx dX9_next_94 ?_
      refine r_putI hM.fx hM.kf hH fp_X9_75 (hLC.in hg0 (by decide)) (gwi_r _) dX9_next_95 (fun H locs hH => ?_)
      obtain ⟨M_7, eM_7, hf⟩ := gst_s hf
      rw [← eM_7] at hH
      refine lv_goto (tgt := 77) hM.fx.1 hM.fx.2.1 dX9_next_98 (by decide) ?_
      exact ih _ _ _ hg0 hf _ _ _ hH hl
def fX9_next_8 (g : Nat → Nat)  : Nat → Nat → gMem → Option gMem
  | 0, _, _ => none
  | fu + 1, a0, M => (fX9_see g a0 (M a0 10) M).bind fun x_3 => if x_3 = 32 then (gst (gup M a0 10 (gwi (M a0 10 + 1))) fun M_24 => fX9_next_8 g fu a0 M_24) else (gst (gup M a0 11 (M a0 10)) fun M_6 => gst (gup M_6 a0 13 0) fun M_7 => if M_7 a0 10 < M_7 a0 9 then ((fX9_isLetter g a0 (M_7 a0 10) M_7).bind fun x_13 => if x_13 = 0 then ((fX9_isDigit g a0 (M_7 a0 10) M_7).bind fun x_17 => if x_17 = 0 then (gst (gup M_7 a0 11 (gwi (M_7 a0 11 + 1))) fun M_20 => gst (gup M_20 a0 12 2) fun M_21 => some M_21) else (fX9_next_120 g gF a0 M_7)) else (fX9_next_77 g gF a0 M_7)) else (gst (gup M_7 a0 12 3) fun M_22 => some M_22))
set_option maxHeartbeats 4000000 in
set_option maxRecDepth 100000 in
theorem wX9_next_8 {w : gW} {n : Nat} {Rm : Nat → Nat → Nat} {g : Nat → Nat} (hLC : gLC g n Rm) {p : Program} {l : Launch} {e : Env} {s : State} {m : MethodId} {args : Array Value} {below : List Frame} {meth : Method} {c : Code} (hM : gMC w p l s m args meth c cX9_next 1 RX9 none)  : ∀ (fu : Nat), ∀ (a0 : Nat) (M : gMem) (r : gMem) (hg0 : g a0 = 9) (hf : fX9_next_8 g fu a0 M = some r) (H : Heap) (locs : List Loc) (ls : Array Slot) (hH : gH w n Rm M s H locs) (hl : lv_has ls 1 [(0, .ref (w.1 + a0))]), W p l e { frames := 3, cells := 0, slots := 0, locals := 103 } s m args below meth c H locs 0 0 (gQ w n Rm below args s 0 0 (.inr none) r True) (F0 m 8 ls []) := by
  intro fu
  induction fu with
  | zero =>
    intro a0 M r hg0 hf H locs ls hH hl
    exact absurd hf (by simp [fX9_next_8])
  | succ fu ih =>
    intro a0 M r hg0 hf H locs ls hH hl
    unfold fX9_next_8 at hf
    refine lv_aload_n hM.fx.1 hM.fx.2.1 dX9_next_8 rfl (lv_at hl 0 rfl) ?_
    refine lv_aload_n hM.fx.1 hM.fx.2.1 dX9_next_9 rfl (lv_at hl 0 rfl) ?_
    refine r_getI hM.fx hM.kf hH fl_X9_78 (hLC.in hg0 (by decide)) dX9_next_10 ?_
    have hr_1 := hH.2.2.i (hLC.in hg0 (by decide)).2.2 (by decide : glg 9 10 = false)
    obtain ⟨x_3, ex_3, hf⟩ := gbd hf
    refine r_go1 hH rfl (r_runV (As := [.int (gi (M a0 10))]) hM hH cv_X9_71 (mX9_see hLC hM.ns hg0 hr_1 ex_3) (hLC.in hg0 (by decide)) (by decide) rfl rfl rfl hl.1 rfl (Nat.le_of_ble_eq_true rfl) ⟨(Nat.le_of_ble_eq_true rfl), (Nat.le_of_ble_eq_true rfl)⟩ ⟨(Nat.le_of_ble_eq_true rfl), (Nat.le_of_ble_eq_true rfl)⟩ dX9_next_13) (fun hp_2 H locs hH => ?_)
    refine lv_bipush (v := gi (32)) hM.fx.1 hM.fx.2.1 dX9_next_16 (by decide) ?_
    refine r_icmp_ne (tgt := 34) hM.fx hp_2 (gcR (k := 32) (by decide)) dX9_next_18 (by decide) (fun h_4 => ?_) (fun h_4 => ?_)
    · have hf := gneg' h_4 hf
      refine lv_aload_n hM.fx.1 hM.fx.2.1 dX9_next_34 rfl (lv_at hl 0 rfl) ?_
      refine lv_aload_n hM.fx.1 hM.fx.2.1 dX9_next_35 rfl (lv_at hl 0 rfl) ?_
      refine r_getI hM.fx hM.kf hH fl_X9_78 (hLC.in hg0 (by decide)) dX9_next_36 ?_
      have hr_5 := hH.2.2.i (hLC.in hg0 (by decide)).2.2 (by decide : glg 9 10 = false)
      refine r_putI hM.fx hM.kf hH fp_X9_75 (hLC.in hg0 (by decide)) hr_5 dX9_next_39 (fun H locs hH => ?_)
      obtain ⟨M_6, eM_6, hf⟩ := gst_s hf
      rw [← eM_6] at hH
      refine lv_aload_n hM.fx.1 hM.fx.2.1 dX9_next_42 rfl (lv_at hl 0 rfl) ?_
      refine lv_iconst (v := gi (0)) hM.fx.1 hM.fx.2.1 dX9_next_43 rfl ?_
      refine r_putI hM.fx hM.kf hH fp_X9_81 (hLC.in hg0 (by decide)) (gcR (k := 0) (by decide)) dX9_next_44 (fun H locs hH => ?_)
      obtain ⟨M_7, eM_7, hf⟩ := gst_s hf
      rw [← eM_7] at hH
      refine lv_aload_n hM.fx.1 hM.fx.2.1 dX9_next_47 rfl (lv_at hl 0 rfl) ?_
      refine r_getI hM.fx hM.kf hH fl_X9_78 (hLC.in hg0 (by decide)) dX9_next_48 ?_
      have hr_8 := hH.2.2.i (hLC.in hg0 (by decide)).2.2 (by decide : glg 9 10 = false)
      refine lv_aload_n hM.fx.1 hM.fx.2.1 dX9_next_51 rfl (lv_at hl 0 rfl) ?_
      refine r_getI hM.fx hM.kf hH fl_X9_68 (hLC.in hg0 (by decide)) dX9_next_52 ?_
      have hr_9 := hH.2.2.i (hLC.in hg0 (by decide)).2.2 (by decide : glg 9 9 = false)
      refine r_icmp_lt (tgt := 66) hM.fx hr_8 hr_9 dX9_next_55 (by decide) (fun h_10 => ?_) (fun h_10 => ?_)
      · have hf := gpos h_10 hf
        refine lv_aload_n hM.fx.1 hM.fx.2.1 dX9_next_66 rfl (lv_at hl 0 rfl) ?_
        refine lv_aload_n hM.fx.1 hM.fx.2.1 dX9_next_67 rfl (lv_at hl 0 rfl) ?_
        refine r_getI hM.fx hM.kf hH fl_X9_78 (hLC.in hg0 (by decide)) dX9_next_68 ?_
        have hr_11 := hH.2.2.i (hLC.in hg0 (by decide)).2.2 (by decide : glg 9 10 = false)
        obtain ⟨x_13, ex_13, hf⟩ := gbd hf
        refine r_go1 hH rfl (r_runV (As := [.int (gi (M_7 a0 10))]) hM hH cv_X9_87 (mX9_isLetter hLC hM.ns hg0 hr_11 ex_13) (hLC.in hg0 (by decide)) (by decide) rfl rfl rfl hl.1 rfl (Nat.le_of_ble_eq_true rfl) ⟨(Nat.le_of_ble_eq_true rfl), (Nat.le_of_ble_eq_true rfl)⟩ ⟨(Nat.le_of_ble_eq_true rfl), (Nat.le_of_ble_eq_true rfl)⟩ dX9_next_71) (fun hp_12 H locs hH => ?_)
        refine r_if_eq (tgt := 109) hM.fx (gz_r hp_12) dX9_next_74 (by decide) (fun h_14 => ?_) (fun h_14 => ?_)
        · have hf := gpos h_14 hf
          refine lv_aload_n hM.fx.1 hM.fx.2.1 dX9_next_109 rfl (lv_at hl 0 rfl) ?_
          refine lv_aload_n hM.fx.1 hM.fx.2.1 dX9_next_110 rfl (lv_at hl 0 rfl) ?_
          refine r_getI hM.fx hM.kf hH fl_X9_78 (hLC.in hg0 (by decide)) dX9_next_111 ?_
          have hr_15 := hH.2.2.i (hLC.in hg0 (by decide)).2.2 (by decide : glg 9 10 = false)
          obtain ⟨x_17, ex_17, hf⟩ := gbd hf
          refine r_go1 hH rfl (r_runV (As := [.int (gi (M_7 a0 10))]) hM hH cv_X9_91 (mX9_isDigit hLC hM.ns hg0 hr_15 ex_17) (hLC.in hg0 (by decide)) (by decide) rfl rfl rfl hl.1 rfl (Nat.le_of_ble_eq_true rfl) ⟨(Nat.le_of_ble_eq_true rfl), (Nat.le_of_ble_eq_true rfl)⟩ ⟨(Nat.le_of_ble_eq_true rfl), (Nat.le_of_ble_eq_true rfl)⟩ dX9_next_114) (fun hp_16 H locs hH => ?_)
          refine r_if_eq (tgt := 180) hM.fx (gz_r hp_16) dX9_next_117 (by decide) (fun h_18 => ?_) (fun h_18 => ?_)
          · have hf := gpos h_18 hf
            refine lv_aload_n hM.fx.1 hM.fx.2.1 dX9_next_180 rfl (lv_at hl 0 rfl) ?_
            refine lv_dup hM.fx.1 hM.fx.2.1 dX9_next_181 rfl ?_
            refine r_getI hM.fx hM.kf hH fl_X9_75 (hLC.in hg0 (by decide)) dX9_next_182 ?_
            have hr_19 := hH.2.2.i (hLC.in hg0 (by decide)).2.2 (by decide : glg 9 11 = false)
            refine lv_iconst (v := gi (1)) hM.fx.1 hM.fx.2.1 dX9_next_185 rfl ?_
            refine r_iadd hM.fx dX9_next_186 ?_
            refine r_putI hM.fx hM.kf hH fp_X9_75 (hLC.in hg0 (by decide)) (gwi_r _) dX9_next_187 (fun H locs hH => ?_)
            obtain ⟨M_20, eM_20, hf⟩ := gst_s hf
            rw [← eM_20] at hH
            refine lv_aload_n hM.fx.1 hM.fx.2.1 dX9_next_190 rfl (lv_at hl 0 rfl) ?_
            refine lv_iconst (v := gi (2)) hM.fx.1 hM.fx.2.1 dX9_next_191 rfl ?_
            refine r_putI hM.fx hM.kf hH fp_X9_84 (hLC.in hg0 (by decide)) (gcR (k := 2) (by decide)) dX9_next_192 (fun H locs hH => ?_)
            obtain ⟨M_21, eM_21, hf⟩ := gst_s hf
            rw [← eM_21] at hH
            obtain rfl := Option.some.inj hf
            exact r_vret hM hH trivial ⟨(Nat.le_of_ble_eq_true rfl), (Nat.le_of_ble_eq_true rfl)⟩ dX9_next_195
          · have hf := gneg' h_18 hf
            exact wX9_next_120 hLC hM  gF _ _ _ hg0 hf _ _ _ hH hl
        · have hf := gneg' h_14 hf
          exact wX9_next_77 hLC hM  gF _ _ _ hg0 hf _ _ _ hH hl
      · have hf := gneg' h_10 hf
        refine lv_aload_n hM.fx.1 hM.fx.2.1 dX9_next_58 rfl (lv_at hl 0 rfl) ?_
        refine lv_iconst (v := gi (3)) hM.fx.1 hM.fx.2.1 dX9_next_59 rfl ?_
        refine r_putI hM.fx hM.kf hH fp_X9_84 (hLC.in hg0 (by decide)) (gcR (k := 3) (by decide)) dX9_next_60 (fun H locs hH => ?_)
        obtain ⟨M_22, eM_22, hf⟩ := gst_s hf
        rw [← eM_22] at hH
        refine lv_goto (tgt := 195) hM.fx.1 hM.fx.2.1 dX9_next_63 (by decide) ?_
        obtain rfl := Option.some.inj hf
        exact r_vret hM hH trivial ⟨(Nat.le_of_ble_eq_true rfl), (Nat.le_of_ble_eq_true rfl)⟩ dX9_next_195
    · have hf := gpos h_4 hf
      refine lv_aload_n hM.fx.1 hM.fx.2.1 dX9_next_21 rfl (lv_at hl 0 rfl) ?_
      refine lv_dup hM.fx.1 hM.fx.2.1 dX9_next_22 rfl ?_
      refine r_getI hM.fx hM.kf hH fl_X9_78 (hLC.in hg0 (by decide)) dX9_next_23 ?_
      have hr_23 := hH.2.2.i (hLC.in hg0 (by decide)).2.2 (by decide : glg 9 10 = false)
      refine lv_iconst (v := gi (1)) hM.fx.1 hM.fx.2.1 dX9_next_26 rfl ?_
      refine r_iadd hM.fx dX9_next_27 ?_
      refine r_putI hM.fx hM.kf hH fp_X9_78 (hLC.in hg0 (by decide)) (gwi_r _) dX9_next_28 (fun H locs hH => ?_)
      obtain ⟨M_24, eM_24, hf⟩ := gst_s hf
      rw [← eM_24] at hH
      refine lv_goto (tgt := 8) hM.fx.1 hM.fx.2.1 dX9_next_31 (by decide) ?_
      exact ih _ _ _ hg0 hf _ _ _ hH hl
def fX9_next (g : Nat → Nat) (a0 : Nat) (M : gMem) : Option gMem :=
  gst (gup M a0 10 (M a0 11)) fun M_2 => fX9_next_8 g gF a0 M_2
set_option maxHeartbeats 4000000 in
set_option maxRecDepth 100000 in
theorem mX9_next {w : gW} {n : Nat} {Rm : Nat → Nat → Nat} {g : Nat → Nat} (hLC : gLC g n Rm) {l : Launch} (hl9 : l.stackTraces = false) {a0 : Nat} {M : gMem} {r : gMem} (hg0 : g a0 = 9) (hf : fX9_next g a0 M = some r) : gMT w n Rm l yX9_next cX9_next 1 none 3 103 0 0 [.ref (w.1 + a0)] M (.inr none) r True := by
  unfold fX9_next at hf
  refine gMT.of hl9 (by decide +kernel) ((Nat.le_of_ble_eq_true rfl)) ?_
  intro p e s m below meth c hM hH ls hl
  have hM : gMC w p l s m ([.ref (w.1 + a0)] : List Value).toArray meth c cX9_next 1 RX9 none := hM
  have hl : lv_has ls 1 [(0, .ref (w.1 + a0))] := hl
  refine lv_aload_n hM.fx.1 hM.fx.2.1 dX9_next_0 rfl (lv_at hl 0 rfl) ?_
  refine lv_aload_n hM.fx.1 hM.fx.2.1 dX9_next_1 rfl (lv_at hl 0 rfl) ?_
  refine r_getI hM.fx hM.kf hH fl_X9_75 (hLC.in hg0 (by decide)) dX9_next_2 ?_
  have hr_1 := hH.2.2.i (hLC.in hg0 (by decide)).2.2 (by decide : glg 9 11 = false)
  refine r_putI hM.fx hM.kf hH fp_X9_78 (hLC.in hg0 (by decide)) hr_1 dX9_next_5 (fun H locs hH => ?_)
  obtain ⟨M_2, eM_2, hf⟩ := gst_s hf
  rw [← eM_2] at hH
  exact wX9_next_8 hLC hM  gF _ _ _ hg0 hf _ _ _ hH hl
def fX9_isWord_34 (g : Nat → Nat)  : Nat → Nat → Nat → Int → gMem → Option Int
  | 0, _, _, _, _ => none
  | fu + 1, a0, t1, x2, M => if ((gtx t1).length : Int) ≤ x2 then (some 1) else (if (0 : Int) ≤ gwi (M a0 10 + x2) ∧ (gwi (M a0 10 + x2) : Int) < 600 then if (0 : Int) ≤ x2 ∧ (x2 : Int) < ((gtx t1).length : Int) then if M (a0 + 7) (gwi (M a0 10 + x2)).toNat = (gtx t1).getD x2.toNat 0 then (gst (gwi (x2 + 1)) fun x_7 => fX9_isWord_34 g fu a0 t1 x_7 M) else (some 0) else none else none)
set_option maxHeartbeats 4000000 in
set_option maxRecDepth 100000 in
theorem wX9_isWord_34 {w : gW} {n : Nat} {Rm : Nat → Nat → Nat} {g : Nat → Nat} (hLC : gLC g n Rm) {p : Program} {l : Launch} {e : Env} {s : State} {m : MethodId} {args : Array Value} {below : List Frame} {meth : Method} {c : Code} (hM : gMC w p l s m args meth c cX9_isWord 3 RX9 (some .boolean))  : ∀ (fu : Nat), ∀ (a0 : Nat) (t1 : Nat) (x2 : Int) (M : gMem) (r : Int) (hg0 : g a0 = 9) (hs1 : gtx t1 ≠ []) (hr2 : gRI x2) (hf : fX9_isWord_34 g fu a0 t1 x2 M = some r) (H : Heap) (locs : List Loc) (ls : Array Slot) (hH : gH w n Rm M s H locs) (hl : lv_has ls 3 [(0, .ref (w.1 + a0)), (1, gsR w t1), (2, .int (gi x2))]), W p l e { frames := 8, cells := 0, slots := 0, locals := 250 } s m args below meth c H locs 0 0 (gQ w n Rm below args s 0 0 (.inr (some (.int (gi r)))) M (r = 0 ∨ r = 1)) (F0 m 34 ls []) := by
  intro fu
  induction fu with
  | zero =>
    intro a0 t1 x2 M r hg0 hs1 hr2 hf H locs ls hH hl
    exact absurd hf (by simp [fX9_isWord_34])
  | succ fu ih =>
    intro a0 t1 x2 M r hg0 hs1 hr2 hf H locs ls hH hl
    unfold fX9_isWord_34 at hf
    refine lv_iload_n hM.fx.1 hM.fx.2.1 dX9_isWord_34 rfl (lv_at hl 2 rfl) ?_
    refine lv_aload_n hM.fx.1 hM.fx.2.1 dX9_isWord_35 rfl (lv_at hl 1 rfl) ?_
    refine r_slen hM hH hl.1 gw_1337 hs1 ⟨(Nat.le_of_ble_eq_true rfl), (Nat.le_of_ble_eq_true rfl)⟩ (Nat.le_of_ble_eq_true rfl) ⟨(Nat.le_of_ble_eq_true rfl), (Nat.le_of_ble_eq_true rfl)⟩ dX9_isWord_36 (fun H locs hH => ?_)
    refine r_icmp_ge (tgt := 69) hM.fx hr2 (gtx_len _) dX9_isWord_39 (by decide) (fun h_1 => ?_) (fun h_1 => ?_)
    · have hf := gpos h_1 hf
      refine lv_iconst (v := gi (1)) hM.fx.1 hM.fx.2.1 dX9_isWord_69 rfl ?_
      obtain rfl := Option.some.inj hf
      exact r_zret hM hH (Or.inr rfl) (Or.inr rfl) ⟨(Nat.le_of_ble_eq_true rfl), (Nat.le_of_ble_eq_true rfl)⟩ dX9_isWord_70
    · have hf := gneg' h_1 hf
      refine lv_aload_n hM.fx.1 hM.fx.2.1 dX9_isWord_42 rfl (lv_at hl 0 rfl) ?_
      refine r_getR hM.fx hM.kf hH hLC fl_X9_29 hg0 gch_9_8 dX9_isWord_43 ?_
      refine lv_aload_n hM.fx.1 hM.fx.2.1 dX9_isWord_46 rfl (lv_at hl 0 rfl) ?_
      refine r_getI hM.fx hM.kf hH fl_X9_78 (hLC.in hg0 (by decide)) dX9_isWord_47 ?_
      have hr_2 := hH.2.2.i (hLC.in hg0 (by decide)).2.2 (by decide : glg 9 10 = false)
      refine lv_iload_n hM.fx.1 hM.fx.2.1 dX9_isWord_50 rfl (lv_at hl 2 rfl) ?_
      refine r_iadd hM.fx dX9_isWord_51 ?_
      obtain ⟨g_3, hf⟩ := gif hf
      refine r_iald hM.fx hM.kf hH (hLC.in (hLC.ch hg0 (by decide) gch_9_8) (by decide)) (⟨by decide, by decide⟩ : gAr 9616 0) (gwi_r _) g_3 dX9_isWord_52 ?_
      have hr_4 := hH.2.2.i (k := (gwi (M a0 10 + x2)).toNat) (hLC.in (hLC.ch hg0 (by decide) gch_9_8) (by decide)).2.2 (glg_a (⟨by decide, by decide⟩ : gAr 9616 0))
      refine lv_aload_n hM.fx.1 hM.fx.2.1 dX9_isWord_53 rfl (lv_at hl 1 rfl) ?_
      refine lv_iload_n hM.fx.1 hM.fx.2.1 dX9_isWord_54 rfl (lv_at hl 2 rfl) ?_
      obtain ⟨g_5, hf⟩ := gif hf
      refine r_schar hM hH hl.1 gw_1338 hs1 hr2 g_5 ⟨(Nat.le_of_ble_eq_true rfl), (Nat.le_of_ble_eq_true rfl)⟩ (Nat.le_of_ble_eq_true rfl) ⟨(Nat.le_of_ble_eq_true rfl), (Nat.le_of_ble_eq_true rfl)⟩ dX9_isWord_55 (fun H locs hH => ?_)
      refine r_icmp_eq (tgt := 63) hM.fx hr_4 (gtx_r _ _) dX9_isWord_58 (by decide) (fun h_6 => ?_) (fun h_6 => ?_)
      · have hf := gpos h_6 hf
        obtain ⟨x_7, ex_7, hf⟩ := gst_s hf
        have hx_7 : gRI x_7 := by rw [ex_7]; exact gwi_r _
        refine r_iinc (lv' := [(2, .int (gi x_7)), (0, .ref (w.1 + a0)), (1, gsR w t1)]) hM.fx dX9_isWord_63 hl (k := 2) rfl (by decide) (by rw [ex_7]; rfl) (fun ls hl => ?_)
        refine lv_goto (tgt := 34) hM.fx.1 hM.fx.2.1 dX9_isWord_66 (by decide) ?_
        exact ih _ _ _ _ _ hg0 hs1 hx_7 hf _ _ _ hH (lv_sub hl [1, 2, 0] rfl)
      · have hf := gneg' h_6 hf
        refine lv_iconst (v := gi (0)) hM.fx.1 hM.fx.2.1 dX9_isWord_61 rfl ?_
        obtain rfl := Option.some.inj hf
        exact r_zret hM hH (Or.inl rfl) (Or.inl rfl) ⟨(Nat.le_of_ble_eq_true rfl), (Nat.le_of_ble_eq_true rfl)⟩ dX9_isWord_62
def fX9_isWord (g : Nat → Nat) (a0 : Nat) (t1 : Nat) (M : gMem) : Option Int :=
  if M a0 14 = 0 then (if M a0 12 = 0 then (if gwi (M a0 11 - M a0 10) = ((gtx t1).length : Int) then (fX9_isWord_34 g gF a0 t1 0 M) else (some 0)) else (some 0)) else (some 0)
set_option maxHeartbeats 4000000 in
set_option maxRecDepth 100000 in
theorem mX9_isWord {w : gW} {n : Nat} {Rm : Nat → Nat → Nat} {g : Nat → Nat} (hLC : gLC g n Rm) {l : Launch} (hl9 : l.stackTraces = false) {a0 : Nat} {t1 : Nat} {M : gMem} {r : Int} (hg0 : g a0 = 9) (hs1 : gtx t1 ≠ []) (hf : fX9_isWord g a0 t1 M = some r) : gMT w n Rm l yX9_isWord cX9_isWord 3 (some .boolean) 8 250 0 0 [.ref (w.1 + a0), gsR w t1] M (.inr (some (.int (gi r)))) M (r = 0 ∨ r = 1) := by
  unfold fX9_isWord at hf
  refine gMT.of hl9 (by decide +kernel) ((Nat.le_of_ble_eq_true rfl)) ?_
  intro p e s m below meth c hM hH ls hl
  have hM : gMC w p l s m ([.ref (w.1 + a0), gsR w t1] : List Value).toArray meth c cX9_isWord 3 RX9 (some .boolean) := hM
  have hl : lv_has ls 3 [(0, .ref (w.1 + a0)), (1, gsR w t1)] := hl
  refine lv_aload_n hM.fx.1 hM.fx.2.1 dX9_isWord_0 rfl (lv_at hl 0 rfl) ?_
  refine r_getI hM.fx hM.kf hH fl_X9_101 (hLC.in hg0 (by decide)) dX9_isWord_1 ?_
  have hr_1 := hH.2.2.i (hLC.in hg0 (by decide)).2.2 (by decide : glg 9 14 = false)
  refine r_if_ne (tgt := 30) hM.fx hr_1 dX9_isWord_4 (by decide) (fun h_2 => ?_) (fun h_2 => ?_)
  · have hf := gneg' h_2 hf
    refine lv_iconst (v := gi (0)) hM.fx.1 hM.fx.2.1 dX9_isWord_30 rfl ?_
    obtain rfl := Option.some.inj hf
    exact r_zret hM hH (Or.inl rfl) (Or.inl rfl) ⟨(Nat.le_of_ble_eq_true rfl), (Nat.le_of_ble_eq_true rfl)⟩ dX9_isWord_31
  · have hf := gpos h_2 hf
    refine lv_aload_n hM.fx.1 hM.fx.2.1 dX9_isWord_7 rfl (lv_at hl 0 rfl) ?_
    refine r_getI hM.fx hM.kf hH fl_X9_84 (hLC.in hg0 (by decide)) dX9_isWord_8 ?_
    have hr_3 := hH.2.2.i (hLC.in hg0 (by decide)).2.2 (by decide : glg 9 12 = false)
    refine r_if_ne (tgt := 30) hM.fx hr_3 dX9_isWord_11 (by decide) (fun h_4 => ?_) (fun h_4 => ?_)
    · have hf := gneg' h_4 hf
      refine lv_iconst (v := gi (0)) hM.fx.1 hM.fx.2.1 dX9_isWord_30 rfl ?_
      obtain rfl := Option.some.inj hf
      exact r_zret hM hH (Or.inl rfl) (Or.inl rfl) ⟨(Nat.le_of_ble_eq_true rfl), (Nat.le_of_ble_eq_true rfl)⟩ dX9_isWord_31
    · have hf := gpos h_4 hf
      refine lv_aload_n hM.fx.1 hM.fx.2.1 dX9_isWord_14 rfl (lv_at hl 0 rfl) ?_
      refine r_getI hM.fx hM.kf hH fl_X9_75 (hLC.in hg0 (by decide)) dX9_isWord_15 ?_
      have hr_5 := hH.2.2.i (hLC.in hg0 (by decide)).2.2 (by decide : glg 9 11 = false)
      refine lv_aload_n hM.fx.1 hM.fx.2.1 dX9_isWord_18 rfl (lv_at hl 0 rfl) ?_
      refine r_getI hM.fx hM.kf hH fl_X9_78 (hLC.in hg0 (by decide)) dX9_isWord_19 ?_
      have hr_6 := hH.2.2.i (hLC.in hg0 (by decide)).2.2 (by decide : glg 9 10 = false)
      refine r_isub hM.fx dX9_isWord_22 ?_
      refine lv_aload_n hM.fx.1 hM.fx.2.1 dX9_isWord_23 rfl (lv_at hl 1 rfl) ?_
      refine r_slen hM hH hl.1 gw_1337 hs1 ⟨(Nat.le_of_ble_eq_true rfl), (Nat.le_of_ble_eq_true rfl)⟩ (Nat.le_of_ble_eq_true rfl) ⟨(Nat.le_of_ble_eq_true rfl), (Nat.le_of_ble_eq_true rfl)⟩ dX9_isWord_24 (fun H locs hH => ?_)
      refine r_icmp_eq (tgt := 32) hM.fx (gwi_r _) (gtx_len _) dX9_isWord_27 (by decide) (fun h_7 => ?_) (fun h_7 => ?_)
      · have hf := gpos h_7 hf
        refine lv_iconst (v := gi (0)) hM.fx.1 hM.fx.2.1 dX9_isWord_32 rfl ?_
        refine lv_istore_n (lv' := [(2, .int (gi 0)), (0, .ref (w.1 + a0)), (1, gsR w t1)]) hM.fx.1 hM.fx.2.1 dX9_isWord_33 rfl hl (by decide) rfl (fun ls hl => ?_)
        exact wX9_isWord_34 hLC hM  gF _ _ _ _ _ hg0 hs1 (gcR (k := 0) (by decide)) hf _ _ _ hH (lv_sub hl [1, 2, 0] rfl)
      · have hf := gneg' h_7 hf
        refine lv_iconst (v := gi (0)) hM.fx.1 hM.fx.2.1 dX9_isWord_30 rfl ?_
        obtain rfl := Option.some.inj hf
        exact r_zret hM hH (Or.inl rfl) (Or.inl rfl) ⟨(Nat.le_of_ble_eq_true rfl), (Nat.le_of_ble_eq_true rfl)⟩ dX9_isWord_31
def fX9_isSign (g : Nat → Nat) (a0 : Nat) (x1 : Int) (M : gMem) : Option Int :=
  if M a0 14 = 0 then (if M a0 12 = 2 then ((fX9_see g a0 (M a0 10) M).bind fun x_7 => if x_7 = x1 then (some 1) else (some 0)) else (some 0)) else (some 0)
set_option maxHeartbeats 4000000 in
set_option maxRecDepth 100000 in
theorem mX9_isSign {w : gW} {n : Nat} {Rm : Nat → Nat → Nat} {g : Nat → Nat} (hLC : gLC g n Rm) {l : Launch} (hl9 : l.stackTraces = false) {a0 : Nat} {x1 : Int} {M : gMem} {r : Int} (hg0 : g a0 = 9) (hr1 : gRI x1) (hf : fX9_isSign g a0 x1 M = some r) : gMT w n Rm l yX9_isSign cX9_isSign 2 (some .boolean) 2 81 0 0 [.ref (w.1 + a0), .int (gi x1)] M (.inr (some (.int (gi r)))) M (r = 0 ∨ r = 1) := by
  unfold fX9_isSign at hf
  refine gMT.of hl9 (by decide +kernel) ((Nat.le_of_ble_eq_true rfl)) ?_
  intro p e s m below meth c hM hH ls hl
  have hM : gMC w p l s m ([.ref (w.1 + a0), .int (gi x1)] : List Value).toArray meth c cX9_isSign 2 RX9 (some .boolean) := hM
  have hl : lv_has ls 2 [(0, .ref (w.1 + a0)), (1, .int (gi x1))] := hl
  refine lv_aload_n hM.fx.1 hM.fx.2.1 dX9_isSign_0 rfl (lv_at hl 0 rfl) ?_
  refine r_getI hM.fx hM.kf hH fl_X9_101 (hLC.in hg0 (by decide)) dX9_isSign_1 ?_
  have hr_1 := hH.2.2.i (hLC.in hg0 (by decide)).2.2 (by decide : glg 9 14 = false)
  refine r_if_ne (tgt := 31) hM.fx hr_1 dX9_isSign_4 (by decide) (fun h_2 => ?_) (fun h_2 => ?_)
  · have hf := gneg' h_2 hf
    refine lv_iconst (v := gi (0)) hM.fx.1 hM.fx.2.1 dX9_isSign_31 rfl ?_
    obtain rfl := Option.some.inj hf
    exact r_zret hM hH (Or.inl rfl) (Or.inl rfl) ⟨(Nat.le_of_ble_eq_true rfl), (Nat.le_of_ble_eq_true rfl)⟩ dX9_isSign_32
  · have hf := gpos h_2 hf
    refine lv_aload_n hM.fx.1 hM.fx.2.1 dX9_isSign_7 rfl (lv_at hl 0 rfl) ?_
    refine r_getI hM.fx hM.kf hH fl_X9_84 (hLC.in hg0 (by decide)) dX9_isSign_8 ?_
    have hr_3 := hH.2.2.i (hLC.in hg0 (by decide)).2.2 (by decide : glg 9 12 = false)
    refine lv_iconst (v := gi (2)) hM.fx.1 hM.fx.2.1 dX9_isSign_11 rfl ?_
    refine r_icmp_ne (tgt := 31) hM.fx hr_3 (gcR (k := 2) (by decide)) dX9_isSign_12 (by decide) (fun h_4 => ?_) (fun h_4 => ?_)
    · have hf := gneg' h_4 hf
      refine lv_iconst (v := gi (0)) hM.fx.1 hM.fx.2.1 dX9_isSign_31 rfl ?_
      obtain rfl := Option.some.inj hf
      exact r_zret hM hH (Or.inl rfl) (Or.inl rfl) ⟨(Nat.le_of_ble_eq_true rfl), (Nat.le_of_ble_eq_true rfl)⟩ dX9_isSign_32
    · have hf := gpos h_4 hf
      refine lv_aload_n hM.fx.1 hM.fx.2.1 dX9_isSign_15 rfl (lv_at hl 0 rfl) ?_
      refine lv_aload_n hM.fx.1 hM.fx.2.1 dX9_isSign_16 rfl (lv_at hl 0 rfl) ?_
      refine r_getI hM.fx hM.kf hH fl_X9_78 (hLC.in hg0 (by decide)) dX9_isSign_17 ?_
      have hr_5 := hH.2.2.i (hLC.in hg0 (by decide)).2.2 (by decide : glg 9 10 = false)
      obtain ⟨x_7, ex_7, hf⟩ := gbd hf
      refine r_go1 hH rfl (r_runV (As := [.int (gi (M a0 10))]) hM hH cv_X9_71 (mX9_see hLC hM.ns hg0 hr_5 ex_7) (hLC.in hg0 (by decide)) (by decide) rfl rfl rfl hl.1 rfl (Nat.le_of_ble_eq_true rfl) ⟨(Nat.le_of_ble_eq_true rfl), (Nat.le_of_ble_eq_true rfl)⟩ ⟨(Nat.le_of_ble_eq_true rfl), (Nat.le_of_ble_eq_true rfl)⟩ dX9_isSign_20) (fun hp_6 H locs hH => ?_)
      refine lv_iload_n hM.fx.1 hM.fx.2.1 dX9_isSign_23 rfl (lv_at hl 1 rfl) ?_
      refine r_icmp_ne (tgt := 31) hM.fx hp_6 hr1 dX9_isSign_24 (by decide) (fun h_8 => ?_) (fun h_8 => ?_)
      · have hf := gneg' h_8 hf
        refine lv_iconst (v := gi (0)) hM.fx.1 hM.fx.2.1 dX9_isSign_31 rfl ?_
        obtain rfl := Option.some.inj hf
        exact r_zret hM hH (Or.inl rfl) (Or.inl rfl) ⟨(Nat.le_of_ble_eq_true rfl), (Nat.le_of_ble_eq_true rfl)⟩ dX9_isSign_32
      · have hf := gpos h_8 hf
        refine lv_iconst (v := gi (1)) hM.fx.1 hM.fx.2.1 dX9_isSign_27 rfl ?_
        refine lv_goto (tgt := 32) hM.fx.1 hM.fx.2.1 dX9_isSign_28 (by decide) ?_
        obtain rfl := Option.some.inj hf
        exact r_zret hM hH (Or.inr rfl) (Or.inr rfl) ⟨(Nat.le_of_ble_eq_true rfl), (Nat.le_of_ble_eq_true rfl)⟩ dX9_isSign_32
def fX9_fails (g : Nat → Nat) (a0 : Nat) (x1 : Int) (M : gMem) : Option gMem :=
  if M a0 14 = 0 then (gst (gup M a0 14 x1) fun M_3 => gst (gup M_3 a0 15 (M_3 a0 10)) fun M_5 => some M_5) else (some M)
set_option maxHeartbeats 4000000 in
set_option maxRecDepth 100000 in
theorem mX9_fails {w : gW} {n : Nat} {Rm : Nat → Nat → Nat} {g : Nat → Nat} (hLC : gLC g n Rm) {l : Launch} (hl9 : l.stackTraces = false) {a0 : Nat} {x1 : Int} {M : gMem} {r : gMem} (hg0 : g a0 = 9) (hr1 : gRI x1) (hf : fX9_fails g a0 x1 M = some r) : gMT w n Rm l yX9_fails cX9_fails 2 none 1 60 0 0 [.ref (w.1 + a0), .int (gi x1)] M (.inr none) r True := by
  unfold fX9_fails at hf
  refine gMT.of hl9 (by decide +kernel) ((Nat.le_of_ble_eq_true rfl)) ?_
  intro p e s m below meth c hM hH ls hl
  have hM : gMC w p l s m ([.ref (w.1 + a0), .int (gi x1)] : List Value).toArray meth c cX9_fails 2 RX9 none := hM
  have hl : lv_has ls 2 [(0, .ref (w.1 + a0)), (1, .int (gi x1))] := hl
  refine lv_aload_n hM.fx.1 hM.fx.2.1 dX9_fails_0 rfl (lv_at hl 0 rfl) ?_
  refine r_getI hM.fx hM.kf hH fl_X9_101 (hLC.in hg0 (by decide)) dX9_fails_1 ?_
  have hr_1 := hH.2.2.i (hLC.in hg0 (by decide)).2.2 (by decide : glg 9 14 = false)
  refine r_if_eq (tgt := 8) hM.fx hr_1 dX9_fails_4 (by decide) (fun h_2 => ?_) (fun h_2 => ?_)
  · have hf := gpos h_2 hf
    refine lv_aload_n hM.fx.1 hM.fx.2.1 dX9_fails_8 rfl (lv_at hl 0 rfl) ?_
    refine lv_iload_n hM.fx.1 hM.fx.2.1 dX9_fails_9 rfl (lv_at hl 1 rfl) ?_
    refine r_putI hM.fx hM.kf hH fp_X9_101 (hLC.in hg0 (by decide)) hr1 dX9_fails_10 (fun H locs hH => ?_)
    obtain ⟨M_3, eM_3, hf⟩ := gst_s hf
    rw [← eM_3] at hH
    refine lv_aload_n hM.fx.1 hM.fx.2.1 dX9_fails_13 rfl (lv_at hl 0 rfl) ?_
    refine lv_aload_n hM.fx.1 hM.fx.2.1 dX9_fails_14 rfl (lv_at hl 0 rfl) ?_
    refine r_getI hM.fx hM.kf hH fl_X9_78 (hLC.in hg0 (by decide)) dX9_fails_15 ?_
    have hr_4 := hH.2.2.i (hLC.in hg0 (by decide)).2.2 (by decide : glg 9 10 = false)
    refine r_putI hM.fx hM.kf hH fp_X9_114 (hLC.in hg0 (by decide)) hr_4 dX9_fails_18 (fun H locs hH => ?_)
    obtain ⟨M_5, eM_5, hf⟩ := gst_s hf
    rw [← eM_5] at hH
    obtain rfl := Option.some.inj hf
    exact r_vret hM hH trivial ⟨(Nat.le_of_ble_eq_true rfl), (Nat.le_of_ble_eq_true rfl)⟩ dX9_fails_21
  · have hf := gneg' h_2 hf
    obtain rfl := Option.some.inj hf
    exact r_vret hM hH trivial ⟨(Nat.le_of_ble_eq_true rfl), (Nat.le_of_ble_eq_true rfl)⟩ dX9_fails_7
def fX9_must_10 (g : Nat → Nat)  (a0 : Nat) (M : gMem) : Option gMem :=
  if M a0 14 = 0 then ((fX9_next g a0 M).bind fun M_4 => some M_4) else (some M)
set_option maxHeartbeats 4000000 in
set_option maxRecDepth 100000 in
theorem wX9_must_10 {w : gW} {n : Nat} {Rm : Nat → Nat → Nat} {g : Nat → Nat} (hLC : gLC g n Rm) {p : Program} {l : Launch} {e : Env} {s : State} {m : MethodId} {args : Array Value} {below : List Frame} {meth : Method} {c : Code} (hM : gMC w p l s m args meth c cX9_must 2 RX9 none)  : ∀ (a0 : Nat) (M : gMem) (r : gMem) (hg0 : g a0 = 9) (hf : fX9_must_10 g a0 M = some r) (H : Heap) (locs : List Loc) (ls : Array Slot) (hH : gH w n Rm M s H locs) (hl : lv_has ls 2 [(0, .ref (w.1 + a0))]), W p l e { frames := 4, cells := 0, slots := 0, locals := 123 } s m args below meth c H locs 0 0 (gQ w n Rm below args s 0 0 (.inr none) r True) (F0 m 10 ls []) := by
  intro a0 M r hg0 hf H locs ls hH hl
  unfold fX9_must_10 at hf
  refine lv_aload_n hM.fx.1 hM.fx.2.1 dX9_must_10 rfl (lv_at hl 0 rfl) ?_
  refine r_getI hM.fx hM.kf hH fl_X9_101 (hLC.in hg0 (by decide)) dX9_must_11 ?_
  have hr_1 := hH.2.2.i (hLC.in hg0 (by decide)).2.2 (by decide : glg 9 14 = false)
  refine r_if_ne (tgt := 21) hM.fx hr_1 dX9_must_14 (by decide) (fun h_2 => ?_) (fun h_2 => ?_)
  · have hf := gneg' h_2 hf
    obtain rfl := Option.some.inj hf
    exact r_vret hM hH trivial ⟨(Nat.le_of_ble_eq_true rfl), (Nat.le_of_ble_eq_true rfl)⟩ dX9_must_21
  · have hf := gpos h_2 hf
    refine lv_aload_n hM.fx.1 hM.fx.2.1 dX9_must_17 rfl (lv_at hl 0 rfl) ?_
    obtain ⟨M_4, eM_4, hf⟩ := gbd hf
    refine r_go0 hH rfl (r_runV (As := []) hM hH cv_X9_121 (mX9_next hLC hM.ns hg0 eM_4) (hLC.in hg0 (by decide)) (by decide) rfl rfl rfl hl.1 rfl (Nat.le_of_ble_eq_true rfl) ⟨(Nat.le_of_ble_eq_true rfl), (Nat.le_of_ble_eq_true rfl)⟩ ⟨(Nat.le_of_ble_eq_true rfl), (Nat.le_of_ble_eq_true rfl)⟩ dX9_must_18) (fun hp_3 H locs hH => ?_)
    obtain rfl := Option.some.inj hf
    exact r_vret hM hH trivial ⟨(Nat.le_of_ble_eq_true rfl), (Nat.le_of_ble_eq_true rfl)⟩ dX9_must_21
def fX9_must (g : Nat → Nat) (a0 : Nat) (x1 : Int) (M : gMem) : Option gMem :=
  if x1 = 0 then ((fX9_fails g a0 ((-2)) M).bind fun M_3 => fX9_must_10 g a0 M_3) else (fX9_must_10 g a0 M)
set_option maxHeartbeats 4000000 in
set_option maxRecDepth 100000 in
theorem mX9_must {w : gW} {n : Nat} {Rm : Nat → Nat → Nat} {g : Nat → Nat} (hLC : gLC g n Rm) {l : Launch} (hl9 : l.stackTraces = false) {a0 : Nat} {x1 : Int} {M : gMem} {r : gMem} (hg0 : g a0 = 9) (hr1 : gRI x1) (hf : fX9_must g a0 x1 M = some r) : gMT w n Rm l yX9_must cX9_must 2 none 4 123 0 0 [.ref (w.1 + a0), .int (gi x1)] M (.inr none) r True := by
  unfold fX9_must at hf
  refine gMT.of hl9 (by decide +kernel) ((Nat.le_of_ble_eq_true rfl)) ?_
  intro p e s m below meth c hM hH ls hl
  have hM : gMC w p l s m ([.ref (w.1 + a0), .int (gi x1)] : List Value).toArray meth c cX9_must 2 RX9 none := hM
  have hl : lv_has ls 2 [(0, .ref (w.1 + a0)), (1, .int (gi x1))] := hl
  refine lv_iload_n hM.fx.1 hM.fx.2.1 dX9_must_0 rfl (lv_at hl 1 rfl) ?_
  refine r_if_ne (tgt := 10) hM.fx hr1 dX9_must_1 (by decide) (fun h_1 => ?_) (fun h_1 => ?_)
  · have hf := gneg' h_1 hf
    exact wX9_must_10 hLC hM   _ _ _ hg0 hf _ _ _ hH (lv_sub hl [0] rfl)
  · have hf := gpos h_1 hf
    refine lv_aload_n hM.fx.1 hM.fx.2.1 dX9_must_4 rfl (lv_at hl 0 rfl) ?_
    refine lv_bipush (v := gi (-2)) hM.fx.1 hM.fx.2.1 dX9_must_5 (by decide) ?_
    obtain ⟨M_3, eM_3, hf⟩ := gbd hf
    refine r_go0 hH rfl (r_runV (As := [.int (gi ((-2)))]) hM hH cv_X9_117 (mX9_fails hLC hM.ns hg0 (gcR (k := -2) (by decide)) eM_3) (hLC.in hg0 (by decide)) (by decide) rfl rfl rfl hl.1 rfl (Nat.le_of_ble_eq_true rfl) ⟨(Nat.le_of_ble_eq_true rfl), (Nat.le_of_ble_eq_true rfl)⟩ ⟨(Nat.le_of_ble_eq_true rfl), (Nat.le_of_ble_eq_true rfl)⟩ dX9_must_7) (fun hp_2 H locs hH => ?_)
    exact wX9_must_10 hLC hM   _ _ _ hg0 hf _ _ _ hH (lv_sub hl [0] rfl)
def fX9_stands_46 (g : Nat → Nat)  (a0 : Nat) (M : gMem) : Option (Int × gMem) :=
  if M a0 14 = 0 then (some (M a0 13, M)) else (some (0, M))
set_option maxHeartbeats 4000000 in
set_option maxRecDepth 100000 in
theorem wX9_stands_46 {w : gW} {n : Nat} {Rm : Nat → Nat → Nat} {g : Nat → Nat} (hLC : gLC g n Rm) {p : Program} {l : Launch} {e : Env} {s : State} {m : MethodId} {args : Array Value} {below : List Frame} {meth : Method} {c : Code} (hM : gMC w p l s m args meth c cX9_stands 3 RX9 (some .int))  : ∀ (a0 : Nat) (M : gMem) (r : (Int × gMem)) (hg0 : g a0 = 9) (hf : fX9_stands_46 g a0 M = some r) (H : Heap) (locs : List Loc) (ls : Array Slot) (hH : gH w n Rm M s H locs) (hl : lv_has ls 3 [(0, .ref (w.1 + a0))]), W p l e { frames := 2, cells := 0, slots := 0, locals := 82 } s m args below meth c H locs 0 0 (gQ w n Rm below args s 0 0 (.inr (some (.int (gi r.1)))) r.2 (gRI r.1)) (F0 m 46 ls []) := by
  intro a0 M r hg0 hf H locs ls hH hl
  unfold fX9_stands_46 at hf
  refine lv_aload_n hM.fx.1 hM.fx.2.1 dX9_stands_46 rfl (lv_at hl 0 rfl) ?_
  refine r_getI hM.fx hM.kf hH fl_X9_101 (hLC.in hg0 (by decide)) dX9_stands_47 ?_
  have hr_1 := hH.2.2.i (hLC.in hg0 (by decide)).2.2 (by decide : glg 9 14 = false)
  refine r_if_ne (tgt := 60) hM.fx hr_1 dX9_stands_50 (by decide) (fun h_2 => ?_) (fun h_2 => ?_)
  · have hf := gneg' h_2 hf
    refine lv_iconst (v := gi (0)) hM.fx.1 hM.fx.2.1 dX9_stands_60 rfl ?_
    obtain rfl := Option.some.inj hf
    exact r_iret hM hH (gcR (k := 0) (by decide)) ⟨(Nat.le_of_ble_eq_true rfl), (Nat.le_of_ble_eq_true rfl)⟩ dX9_stands_61
  · have hf := gpos h_2 hf
    refine lv_aload_n hM.fx.1 hM.fx.2.1 dX9_stands_53 rfl (lv_at hl 0 rfl) ?_
    refine r_getI hM.fx hM.kf hH fl_X9_81 (hLC.in hg0 (by decide)) dX9_stands_54 ?_
    have hr_3 := hH.2.2.i (hLC.in hg0 (by decide)).2.2 (by decide : glg 9 13 = false)
    refine lv_goto (tgt := 61) hM.fx.1 hM.fx.2.1 dX9_stands_57 (by decide) ?_
    obtain rfl := Option.some.inj hf
    exact r_iret hM hH hr_3 ⟨(Nat.le_of_ble_eq_true rfl), (Nat.le_of_ble_eq_true rfl)⟩ dX9_stands_61
def fX9_stands_21 (g : Nat → Nat)  (a0 : Nat) (x1 : Int) (x2 : Int) (M : gMem) : Option (Int × gMem) :=
  if M a0 14 = 0 then ((fX9_isIn g (M a0 13) x1 x2).bind fun x_5 => if x_5 = 0 then ((fX9_fails g a0 ((-3)) M).bind fun M_8 => fX9_stands_46 g a0 M_8) else (fX9_stands_46 g a0 M)) else (fX9_stands_46 g a0 M)
set_option maxHeartbeats 4000000 in
set_option maxRecDepth 100000 in
theorem wX9_stands_21 {w : gW} {n : Nat} {Rm : Nat → Nat → Nat} {g : Nat → Nat} (hLC : gLC g n Rm) {p : Program} {l : Launch} {e : Env} {s : State} {m : MethodId} {args : Array Value} {below : List Frame} {meth : Method} {c : Code} (hM : gMC w p l s m args meth c cX9_stands 3 RX9 (some .int))  : ∀ (a0 : Nat) (x1 : Int) (x2 : Int) (M : gMem) (r : (Int × gMem)) (hg0 : g a0 = 9) (hr1 : gRI x1) (hr2 : gRI x2) (hf : fX9_stands_21 g a0 x1 x2 M = some r) (H : Heap) (locs : List Loc) (ls : Array Slot) (hH : gH w n Rm M s H locs) (hl : lv_has ls 3 [(0, .ref (w.1 + a0)), (1, .int (gi x1)), (2, .int (gi x2))]), W p l e { frames := 2, cells := 0, slots := 0, locals := 82 } s m args below meth c H locs 0 0 (gQ w n Rm below args s 0 0 (.inr (some (.int (gi r.1)))) r.2 (gRI r.1)) (F0 m 21 ls []) := by
  intro a0 x1 x2 M r hg0 hr1 hr2 hf H locs ls hH hl
  unfold fX9_stands_21 at hf
  refine lv_aload_n hM.fx.1 hM.fx.2.1 dX9_stands_21 rfl (lv_at hl 0 rfl) ?_
  refine r_getI hM.fx hM.kf hH fl_X9_101 (hLC.in hg0 (by decide)) dX9_stands_22 ?_
  have hr_1 := hH.2.2.i (hLC.in hg0 (by decide)).2.2 (by decide : glg 9 14 = false)
  refine r_if_ne (tgt := 46) hM.fx hr_1 dX9_stands_25 (by decide) (fun h_2 => ?_) (fun h_2 => ?_)
  · have hf := gneg' h_2 hf
    exact wX9_stands_46 hLC hM   _ _ _ hg0 hf _ _ _ hH (lv_sub hl [0] rfl)
  · have hf := gpos h_2 hf
    refine lv_aload_n hM.fx.1 hM.fx.2.1 dX9_stands_28 rfl (lv_at hl 0 rfl) ?_
    refine r_getI hM.fx hM.kf hH fl_X9_81 (hLC.in hg0 (by decide)) dX9_stands_29 ?_
    have hr_3 := hH.2.2.i (hLC.in hg0 (by decide)).2.2 (by decide : glg 9 13 = false)
    refine lv_iload_n hM.fx.1 hM.fx.2.1 dX9_stands_32 rfl (lv_at hl 1 rfl) ?_
    refine lv_iload_n hM.fx.1 hM.fx.2.1 dX9_stands_33 rfl (lv_at hl 2 rfl) ?_
    obtain ⟨x_5, ex_5, hf⟩ := gbd hf
    refine r_go1 hH rfl (r_runS (As := [.int (gi (M a0 13)), .int (gi x1), .int (gi x2)]) hM hH cs_X9_56 (mX9_isIn hLC hM.ns hr_3 hr1 hr2 ex_5) rfl hl.1 rfl (Nat.le_of_ble_eq_true rfl) ⟨(Nat.le_of_ble_eq_true rfl), (Nat.le_of_ble_eq_true rfl)⟩ ⟨(Nat.le_of_ble_eq_true rfl), (Nat.le_of_ble_eq_true rfl)⟩ dX9_stands_34) (fun hp_4 H locs hH => ?_)
    refine r_if_ne (tgt := 46) hM.fx (gz_r hp_4) dX9_stands_37 (by decide) (fun h_6 => ?_) (fun h_6 => ?_)
    · have hf := gneg' h_6 hf
      exact wX9_stands_46 hLC hM   _ _ _ hg0 hf _ _ _ hH (lv_sub hl [0] rfl)
    · have hf := gpos h_6 hf
      refine lv_aload_n hM.fx.1 hM.fx.2.1 dX9_stands_40 rfl (lv_at hl 0 rfl) ?_
      refine lv_bipush (v := gi (-3)) hM.fx.1 hM.fx.2.1 dX9_stands_41 (by decide) ?_
      obtain ⟨M_8, eM_8, hf⟩ := gbd hf
      refine r_go0 hH rfl (r_runV (As := [.int (gi ((-3)))]) hM hH cv_X9_117 (mX9_fails hLC hM.ns hg0 (gcR (k := -3) (by decide)) eM_8) (hLC.in hg0 (by decide)) (by decide) rfl rfl rfl hl.1 rfl (Nat.le_of_ble_eq_true rfl) ⟨(Nat.le_of_ble_eq_true rfl), (Nat.le_of_ble_eq_true rfl)⟩ ⟨(Nat.le_of_ble_eq_true rfl), (Nat.le_of_ble_eq_true rfl)⟩ dX9_stands_43) (fun hp_7 H locs hH => ?_)
      exact wX9_stands_46 hLC hM   _ _ _ hg0 hf _ _ _ hH (lv_sub hl [0] rfl)
def fX9_stands (g : Nat → Nat) (a0 : Nat) (x1 : Int) (x2 : Int) (M : gMem) : Option (Int × gMem) :=
  if M a0 14 = 0 then (if M a0 12 = 1 then (fX9_stands_21 g a0 x1 x2 M) else ((fX9_fails g a0 ((-2)) M).bind fun M_6 => fX9_stands_21 g a0 x1 x2 M_6)) else (fX9_stands_21 g a0 x1 x2 M)
set_option maxHeartbeats 4000000 in
set_option maxRecDepth 100000 in
theorem mX9_stands {w : gW} {n : Nat} {Rm : Nat → Nat → Nat} {g : Nat → Nat} (hLC : gLC g n Rm) {l : Launch} (hl9 : l.stackTraces = false) {a0 : Nat} {x1 : Int} {x2 : Int} {M : gMem} {r : (Int × gMem)} (hg0 : g a0 = 9) (hr1 : gRI x1) (hr2 : gRI x2) (hf : fX9_stands g a0 x1 x2 M = some r) : gMT w n Rm l yX9_stands cX9_stands 3 (some .int) 2 82 0 0 [.ref (w.1 + a0), .int (gi x1), .int (gi x2)] M (.inr (some (.int (gi r.1)))) r.2 (gRI r.1) := by
  unfold fX9_stands at hf
  refine gMT.of hl9 (by decide +kernel) ((Nat.le_of_ble_eq_true rfl)) ?_
  intro p e s m below meth c hM hH ls hl
  have hM : gMC w p l s m ([.ref (w.1 + a0), .int (gi x1), .int (gi x2)] : List Value).toArray meth c cX9_stands 3 RX9 (some .int) := hM
  have hl : lv_has ls 3 [(0, .ref (w.1 + a0)), (1, .int (gi x1)), (2, .int (gi x2))] := hl
  refine lv_aload_n hM.fx.1 hM.fx.2.1 dX9_stands_0 rfl (lv_at hl 0 rfl) ?_
  refine r_getI hM.fx hM.kf hH fl_X9_101 (hLC.in hg0 (by decide)) dX9_stands_1 ?_
  have hr_1 := hH.2.2.i (hLC.in hg0 (by decide)).2.2 (by decide : glg 9 14 = false)
  refine r_if_ne (tgt := 21) hM.fx hr_1 dX9_stands_4 (by decide) (fun h_2 => ?_) (fun h_2 => ?_)
  · have hf := gneg' h_2 hf
    exact wX9_stands_21 hLC hM   _ _ _ _ _ hg0 hr1 hr2 hf _ _ _ hH hl
  · have hf := gpos h_2 hf
    refine lv_aload_n hM.fx.1 hM.fx.2.1 dX9_stands_7 rfl (lv_at hl 0 rfl) ?_
    refine r_getI hM.fx hM.kf hH fl_X9_84 (hLC.in hg0 (by decide)) dX9_stands_8 ?_
    have hr_3 := hH.2.2.i (hLC.in hg0 (by decide)).2.2 (by decide : glg 9 12 = false)
    refine lv_iconst (v := gi (1)) hM.fx.1 hM.fx.2.1 dX9_stands_11 rfl ?_
    refine r_icmp_eq (tgt := 21) hM.fx hr_3 (gcR (k := 1) (by decide)) dX9_stands_12 (by decide) (fun h_4 => ?_) (fun h_4 => ?_)
    · have hf := gpos h_4 hf
      exact wX9_stands_21 hLC hM   _ _ _ _ _ hg0 hr1 hr2 hf _ _ _ hH hl
    · have hf := gneg' h_4 hf
      refine lv_aload_n hM.fx.1 hM.fx.2.1 dX9_stands_15 rfl (lv_at hl 0 rfl) ?_
      refine lv_bipush (v := gi (-2)) hM.fx.1 hM.fx.2.1 dX9_stands_16 (by decide) ?_
      obtain ⟨M_6, eM_6, hf⟩ := gbd hf
      refine r_go0 hH rfl (r_runV (As := [.int (gi ((-2)))]) hM hH cv_X9_117 (mX9_fails hLC hM.ns hg0 (gcR (k := -2) (by decide)) eM_6) (hLC.in hg0 (by decide)) (by decide) rfl rfl rfl hl.1 rfl (Nat.le_of_ble_eq_true rfl) ⟨(Nat.le_of_ble_eq_true rfl), (Nat.le_of_ble_eq_true rfl)⟩ ⟨(Nat.le_of_ble_eq_true rfl), (Nat.le_of_ble_eq_true rfl)⟩ dX9_stands_18) (fun hp_5 H locs hH => ?_)
      exact wX9_stands_21 hLC hM   _ _ _ _ _ hg0 hr1 hr2 hf _ _ _ hH hl
def fX9_takes (g : Nat → Nat) (a0 : Nat) (x1 : Int) (x2 : Int) (M : gMem) : Option (Int × gMem) :=
  (fX9_stands g a0 x1 x2 M).bind fun q_2 => gst q_2.1 fun x_3 => if q_2.2 a0 14 = 0 then ((fX9_next g a0 q_2.2).bind fun M_7 => some (x_3, M_7)) else (some (x_3, q_2.2))
set_option maxHeartbeats 4000000 in
set_option maxRecDepth 100000 in
theorem mX9_takes {w : gW} {n : Nat} {Rm : Nat → Nat → Nat} {g : Nat → Nat} (hLC : gLC g n Rm) {l : Launch} (hl9 : l.stackTraces = false) {a0 : Nat} {x1 : Int} {x2 : Int} {M : gMem} {r : (Int × gMem)} (hg0 : g a0 = 9) (hr1 : gRI x1) (hr2 : gRI x2) (hf : fX9_takes g a0 x1 x2 M = some r) : gMT w n Rm l yX9_takes cX9_takes 4 (some .int) 4 123 0 0 [.ref (w.1 + a0), .int (gi x1), .int (gi x2)] M (.inr (some (.int (gi r.1)))) r.2 (gRI r.1) := by
  unfold fX9_takes at hf
  refine gMT.of hl9 (by decide +kernel) ((Nat.le_of_ble_eq_true rfl)) ?_
  intro p e s m below meth c hM hH ls hl
  have hM : gMC w p l s m ([.ref (w.1 + a0), .int (gi x1), .int (gi x2)] : List Value).toArray meth c cX9_takes 4 RX9 (some .int) := hM
  have hl : lv_has ls 4 [(0, .ref (w.1 + a0)), (1, .int (gi x1)), (2, .int (gi x2))] := hl
  refine lv_aload_n hM.fx.1 hM.fx.2.1 dX9_takes_0 rfl (lv_at hl 0 rfl) ?_
  refine lv_iload_n hM.fx.1 hM.fx.2.1 dX9_takes_1 rfl (lv_at hl 1 rfl) ?_
  refine lv_iload_n hM.fx.1 hM.fx.2.1 dX9_takes_2 rfl (lv_at hl 2 rfl) ?_
  obtain ⟨q_2, eq_2, hf⟩ := gbd hf
  refine r_go1 hH rfl (r_runV (As := [.int (gi x1), .int (gi x2)]) hM hH cv_X9_124 (mX9_stands hLC hM.ns hg0 hr1 hr2 eq_2) (hLC.in hg0 (by decide)) (by decide) rfl rfl rfl hl.1 rfl (Nat.le_of_ble_eq_true rfl) ⟨(Nat.le_of_ble_eq_true rfl), (Nat.le_of_ble_eq_true rfl)⟩ ⟨(Nat.le_of_ble_eq_true rfl), (Nat.le_of_ble_eq_true rfl)⟩ dX9_takes_3) (fun hp_1 H locs hH => ?_)
  obtain ⟨x_3, ex_3, hf⟩ := gst_s hf
  refine W.eq (g2 := F0 m _ ls (.int (gi x_3) :: _)) (by rw [ex_3]) ?_
  have hx_3 : gRI x_3 := by rw [ex_3]; exact hp_1
  refine lv_istore_n (lv' := [(3, .int (gi x_3)), (0, .ref (w.1 + a0)), (1, .int (gi x1)), (2, .int (gi x2))]) hM.fx.1 hM.fx.2.1 dX9_takes_6 rfl hl (by decide) rfl (fun ls hl => ?_)
  refine lv_aload_n hM.fx.1 hM.fx.2.1 dX9_takes_7 rfl (lv_at hl 1 rfl) ?_
  refine r_getI hM.fx hM.kf hH fl_X9_101 (hLC.in hg0 (by decide)) dX9_takes_8 ?_
  have hr_4 := hH.2.2.i (hLC.in hg0 (by decide)).2.2 (by decide : glg 9 14 = false)
  refine r_if_ne (tgt := 18) hM.fx hr_4 dX9_takes_11 (by decide) (fun h_5 => ?_) (fun h_5 => ?_)
  · have hf := gneg' h_5 hf
    refine lv_iload_n hM.fx.1 hM.fx.2.1 dX9_takes_18 rfl (lv_at hl 0 rfl) ?_
    obtain rfl := Option.some.inj hf
    exact r_iret hM hH hx_3 ⟨(Nat.le_of_ble_eq_true rfl), (Nat.le_of_ble_eq_true rfl)⟩ dX9_takes_19
  · have hf := gpos h_5 hf
    refine lv_aload_n hM.fx.1 hM.fx.2.1 dX9_takes_14 rfl (lv_at hl 1 rfl) ?_
    obtain ⟨M_7, eM_7, hf⟩ := gbd hf
    refine r_go0 hH rfl (r_runV (As := []) hM hH cv_X9_121 (mX9_next hLC hM.ns hg0 eM_7) (hLC.in hg0 (by decide)) (by decide) rfl rfl rfl hl.1 rfl (Nat.le_of_ble_eq_true rfl) ⟨(Nat.le_of_ble_eq_true rfl), (Nat.le_of_ble_eq_true rfl)⟩ ⟨(Nat.le_of_ble_eq_true rfl), (Nat.le_of_ble_eq_true rfl)⟩ dX9_takes_15) (fun hp_6 H locs hH => ?_)
    refine lv_iload_n hM.fx.1 hM.fx.2.1 dX9_takes_18 rfl (lv_at hl 0 rfl) ?_
    obtain rfl := Option.some.inj hf
    exact r_iret hM hH hx_3 ⟨(Nat.le_of_ble_eq_true rfl), (Nat.le_of_ble_eq_true rfl)⟩ dX9_takes_19
def fX9_takesValue_15 (g : Nat → Nat)  (a0 : Nat) (x1 : Int) (M : gMem) : Option (Int × gMem) :=
  (fX9_takes g a0 0 999999 M).bind fun q_2 => gst q_2.1 fun x_3 => if x1 = 0 then (some (x_3, q_2.2)) else (some (gwi (-x_3), q_2.2))
set_option maxHeartbeats 4000000 in
set_option maxRecDepth 100000 in
theorem wX9_takesValue_15 {w : gW} {n : Nat} {Rm : Nat → Nat → Nat} {g : Nat → Nat} (hLC : gLC g n Rm) {p : Program} {l : Launch} {e : Env} {s : State} {m : MethodId} {args : Array Value} {below : List Frame} {meth : Method} {c : Code} (hM : gMC w p l s m args meth c cX9_takesValue 3 RX9 (some .int))  : ∀ (a0 : Nat) (x1 : Int) (M : gMem) (r : (Int × gMem)) (hg0 : g a0 = 9) (hr1 : gRI x1) (hf : fX9_takesValue_15 g a0 x1 M = some r) (H : Heap) (locs : List Loc) (ls : Array Slot) (hH : gH w n Rm M s H locs) (hl : lv_has ls 3 [(0, .ref (w.1 + a0)), (1, .int (gi x1))]), W p l e { frames := 5, cells := 0, slots := 0, locals := 146 } s m args below meth c H locs 0 0 (gQ w n Rm below args s 0 0 (.inr (some (.int (gi r.1)))) r.2 (gRI r.1)) (F0 m 15 ls []) := by
  intro a0 x1 M r hg0 hr1 hf H locs ls hH hl
  unfold fX9_takesValue_15 at hf
  refine lv_aload_n hM.fx.1 hM.fx.2.1 dX9_takesValue_15 rfl (lv_at hl 0 rfl) ?_
  refine lv_iconst (v := gi (0)) hM.fx.1 hM.fx.2.1 dX9_takesValue_16 rfl ?_
  refine r_ldc (x := 999999) hM.fx gw_1415 (by decide) dX9_takesValue_17 ?_
  obtain ⟨q_2, eq_2, hf⟩ := gbd hf
  refine r_go1 hH rfl (r_runV (As := [.int (gi 0), .int (gi 999999)]) hM hH cv_X9_132 (mX9_takes hLC hM.ns hg0 (gcR (k := 0) (by decide)) (gcR (k := 999999) (by decide)) eq_2) (hLC.in hg0 (by decide)) (by decide) rfl rfl rfl hl.1 rfl (Nat.le_of_ble_eq_true rfl) ⟨(Nat.le_of_ble_eq_true rfl), (Nat.le_of_ble_eq_true rfl)⟩ ⟨(Nat.le_of_ble_eq_true rfl), (Nat.le_of_ble_eq_true rfl)⟩ dX9_takesValue_19) (fun hp_1 H locs hH => ?_)
  obtain ⟨x_3, ex_3, hf⟩ := gst_s hf
  refine W.eq (g2 := F0 m _ ls (.int (gi x_3) :: _)) (by rw [ex_3]) ?_
  have hx_3 : gRI x_3 := by rw [ex_3]; exact hp_1
  refine lv_istore_n (lv' := [(2, .int (gi x_3)), (0, .ref (w.1 + a0)), (1, .int (gi x1))]) hM.fx.1 hM.fx.2.1 dX9_takesValue_22 rfl hl (by decide) rfl (fun ls hl => ?_)
  refine lv_iload_n hM.fx.1 hM.fx.2.1 dX9_takesValue_23 rfl (lv_at hl 2 rfl) ?_
  refine r_if_eq (tgt := 32) hM.fx hr1 dX9_takesValue_24 (by decide) (fun h_4 => ?_) (fun h_4 => ?_)
  · have hf := gpos h_4 hf
    refine lv_iload_n hM.fx.1 hM.fx.2.1 dX9_takesValue_32 rfl (lv_at hl 0 rfl) ?_
    obtain rfl := Option.some.inj hf
    exact r_iret hM hH hx_3 ⟨(Nat.le_of_ble_eq_true rfl), (Nat.le_of_ble_eq_true rfl)⟩ dX9_takesValue_33
  · have hf := gneg' h_4 hf
    refine lv_iload_n hM.fx.1 hM.fx.2.1 dX9_takesValue_27 rfl (lv_at hl 0 rfl) ?_
    refine r_ineg hM.fx dX9_takesValue_28 ?_
    refine lv_goto (tgt := 33) hM.fx.1 hM.fx.2.1 dX9_takesValue_29 (by decide) ?_
    obtain rfl := Option.some.inj hf
    exact r_iret hM hH (gwi_r _) ⟨(Nat.le_of_ble_eq_true rfl), (Nat.le_of_ble_eq_true rfl)⟩ dX9_takesValue_33
def fX9_takesValue (g : Nat → Nat) (a0 : Nat) (M : gMem) : Option (Int × gMem) :=
  (fX9_isSign g a0 45 M).bind fun x_2 => if x_2 = 0 then (fX9_takesValue_15 g a0 x_2 M) else ((fX9_next g a0 M).bind fun M_5 => fX9_takesValue_15 g a0 x_2 M_5)
set_option maxHeartbeats 4000000 in
set_option maxRecDepth 100000 in
theorem mX9_takesValue {w : gW} {n : Nat} {Rm : Nat → Nat → Nat} {g : Nat → Nat} (hLC : gLC g n Rm) {l : Launch} (hl9 : l.stackTraces = false) {a0 : Nat} {M : gMem} {r : (Int × gMem)} (hg0 : g a0 = 9) (hf : fX9_takesValue g a0 M = some r) : gMT w n Rm l yX9_takesValue cX9_takesValue 3 (some .int) 5 146 0 0 [.ref (w.1 + a0)] M (.inr (some (.int (gi r.1)))) r.2 (gRI r.1) := by
  unfold fX9_takesValue at hf
  refine gMT.of hl9 (by decide +kernel) ((Nat.le_of_ble_eq_true rfl)) ?_
  intro p e s m below meth c hM hH ls hl
  have hM : gMC w p l s m ([.ref (w.1 + a0)] : List Value).toArray meth c cX9_takesValue 3 RX9 (some .int) := hM
  have hl : lv_has ls 3 [(0, .ref (w.1 + a0))] := hl
  refine lv_aload_n hM.fx.1 hM.fx.2.1 dX9_takesValue_0 rfl (lv_at hl 0 rfl) ?_
  refine lv_bipush (v := gi (45)) hM.fx.1 hM.fx.2.1 dX9_takesValue_1 (by decide) ?_
  obtain ⟨x_2, ex_2, hf⟩ := gbd hf
  refine r_go1 hH rfl (r_runV (As := [.int (gi 45)]) hM hH cv_X9_127 (mX9_isSign hLC hM.ns hg0 (gcR (k := 45) (by decide)) ex_2) (hLC.in hg0 (by decide)) (by decide) rfl rfl rfl hl.1 rfl (Nat.le_of_ble_eq_true rfl) ⟨(Nat.le_of_ble_eq_true rfl), (Nat.le_of_ble_eq_true rfl)⟩ ⟨(Nat.le_of_ble_eq_true rfl), (Nat.le_of_ble_eq_true rfl)⟩ dX9_takesValue_3) (fun hp_1 H locs hH => ?_)
  refine lv_istore_n (lv' := [(1, .int (gi x_2)), (0, .ref (w.1 + a0))]) hM.fx.1 hM.fx.2.1 dX9_takesValue_6 rfl hl (by decide) rfl (fun ls hl => ?_)
  refine lv_iload_n hM.fx.1 hM.fx.2.1 dX9_takesValue_7 rfl (lv_at hl 0 rfl) ?_
  refine r_if_eq (tgt := 15) hM.fx (gz_r hp_1) dX9_takesValue_8 (by decide) (fun h_3 => ?_) (fun h_3 => ?_)
  · have hf := gpos h_3 hf
    exact wX9_takesValue_15 hLC hM   _ _ _ _ hg0 (gz_r hp_1) hf _ _ _ hH (lv_sub hl [1, 0] rfl)
  · have hf := gneg' h_3 hf
    refine lv_aload_n hM.fx.1 hM.fx.2.1 dX9_takesValue_11 rfl (lv_at hl 1 rfl) ?_
    obtain ⟨M_5, eM_5, hf⟩ := gbd hf
    refine r_go0 hH rfl (r_runV (As := []) hM hH cv_X9_121 (mX9_next hLC hM.ns hg0 eM_5) (hLC.in hg0 (by decide)) (by decide) rfl rfl rfl hl.1 rfl (Nat.le_of_ble_eq_true rfl) ⟨(Nat.le_of_ble_eq_true rfl), (Nat.le_of_ble_eq_true rfl)⟩ ⟨(Nat.le_of_ble_eq_true rfl), (Nat.le_of_ble_eq_true rfl)⟩ dX9_takesValue_12) (fun hp_4 H locs hH => ?_)
    exact wX9_takesValue_15 hLC hM   _ _ _ _ hg0 (gz_r hp_1) hf _ _ _ hH (lv_sub hl [1, 0] rfl)
def fX9_mustName_28 (g : Nat → Nat)  (a0 : Nat) (M : gMem) : Option gMem :=
  (fX9_fails g a0 ((-2)) M).bind fun M_2 => some M_2
set_option maxHeartbeats 4000000 in
set_option maxRecDepth 100000 in
theorem wX9_mustName_28 {w : gW} {n : Nat} {Rm : Nat → Nat → Nat} {g : Nat → Nat} (hLC : gLC g n Rm) {p : Program} {l : Launch} {e : Env} {s : State} {m : MethodId} {args : Array Value} {below : List Frame} {meth : Method} {c : Code} (hM : gMC w p l s m args meth c cX9_mustName 1 RX9 none)  : ∀ (a0 : Nat) (M : gMem) (r : gMem) (hg0 : g a0 = 9) (hf : fX9_mustName_28 g a0 M = some r) (H : Heap) (locs : List Loc) (ls : Array Slot) (hH : gH w n Rm M s H locs) (hl : lv_has ls 1 [(0, .ref (w.1 + a0))]), W p l e { frames := 2, cells := 0, slots := 0, locals := 81 } s m args below meth c H locs 0 0 (gQ w n Rm below args s 0 0 (.inr none) r True) (F0 m 28 ls []) := by
  intro a0 M r hg0 hf H locs ls hH hl
  unfold fX9_mustName_28 at hf
  refine lv_aload_n hM.fx.1 hM.fx.2.1 dX9_mustName_28 rfl (lv_at hl 0 rfl) ?_
  refine lv_bipush (v := gi (-2)) hM.fx.1 hM.fx.2.1 dX9_mustName_29 (by decide) ?_
  obtain ⟨M_2, eM_2, hf⟩ := gbd hf
  refine r_go0 hH rfl (r_runV (As := [.int (gi ((-2)))]) hM hH cv_X9_117 (mX9_fails hLC hM.ns hg0 (gcR (k := -2) (by decide)) eM_2) (hLC.in hg0 (by decide)) (by decide) rfl rfl rfl hl.1 rfl (Nat.le_of_ble_eq_true rfl) ⟨(Nat.le_of_ble_eq_true rfl), (Nat.le_of_ble_eq_true rfl)⟩ ⟨(Nat.le_of_ble_eq_true rfl), (Nat.le_of_ble_eq_true rfl)⟩ dX9_mustName_31) (fun hp_1 H locs hH => ?_)
  obtain rfl := Option.some.inj hf
  exact r_vret hM hH trivial ⟨(Nat.le_of_ble_eq_true rfl), (Nat.le_of_ble_eq_true rfl)⟩ dX9_mustName_34
def fX9_mustName (g : Nat → Nat) (a0 : Nat) (M : gMem) : Option gMem :=
  if M a0 14 = 0 then (if M a0 12 = 0 then (if gwi (M a0 11 - M a0 10) ≤ 8 then (some M) else (fX9_mustName_28 g a0 M)) else (fX9_mustName_28 g a0 M)) else (some M)
set_option maxHeartbeats 4000000 in
set_option maxRecDepth 100000 in
theorem mX9_mustName {w : gW} {n : Nat} {Rm : Nat → Nat → Nat} {g : Nat → Nat} (hLC : gLC g n Rm) {l : Launch} (hl9 : l.stackTraces = false) {a0 : Nat} {M : gMem} {r : gMem} (hg0 : g a0 = 9) (hf : fX9_mustName g a0 M = some r) : gMT w n Rm l yX9_mustName cX9_mustName 1 none 2 81 0 0 [.ref (w.1 + a0)] M (.inr none) r True := by
  unfold fX9_mustName at hf
  refine gMT.of hl9 (by decide +kernel) ((Nat.le_of_ble_eq_true rfl)) ?_
  intro p e s m below meth c hM hH ls hl
  have hM : gMC w p l s m ([.ref (w.1 + a0)] : List Value).toArray meth c cX9_mustName 1 RX9 none := hM
  have hl : lv_has ls 1 [(0, .ref (w.1 + a0))] := hl
  refine lv_aload_n hM.fx.1 hM.fx.2.1 dX9_mustName_0 rfl (lv_at hl 0 rfl) ?_
  refine r_getI hM.fx hM.kf hH fl_X9_101 (hLC.in hg0 (by decide)) dX9_mustName_1 ?_
  have hr_1 := hH.2.2.i (hLC.in hg0 (by decide)).2.2 (by decide : glg 9 14 = false)
  refine r_if_ne (tgt := 34) hM.fx hr_1 dX9_mustName_4 (by decide) (fun h_2 => ?_) (fun h_2 => ?_)
  · have hf := gneg' h_2 hf
    obtain rfl := Option.some.inj hf
    exact r_vret hM hH trivial ⟨(Nat.le_of_ble_eq_true rfl), (Nat.le_of_ble_eq_true rfl)⟩ dX9_mustName_34
  · have hf := gpos h_2 hf
    refine lv_aload_n hM.fx.1 hM.fx.2.1 dX9_mustName_7 rfl (lv_at hl 0 rfl) ?_
    refine r_getI hM.fx hM.kf hH fl_X9_84 (hLC.in hg0 (by decide)) dX9_mustName_8 ?_
    have hr_3 := hH.2.2.i (hLC.in hg0 (by decide)).2.2 (by decide : glg 9 12 = false)
    refine r_if_ne (tgt := 28) hM.fx hr_3 dX9_mustName_11 (by decide) (fun h_4 => ?_) (fun h_4 => ?_)
    · have hf := gneg' h_4 hf
      exact wX9_mustName_28 hLC hM   _ _ _ hg0 hf _ _ _ hH hl
    · have hf := gpos h_4 hf
      refine lv_aload_n hM.fx.1 hM.fx.2.1 dX9_mustName_14 rfl (lv_at hl 0 rfl) ?_
      refine r_getI hM.fx hM.kf hH fl_X9_75 (hLC.in hg0 (by decide)) dX9_mustName_15 ?_
      have hr_5 := hH.2.2.i (hLC.in hg0 (by decide)).2.2 (by decide : glg 9 11 = false)
      refine lv_aload_n hM.fx.1 hM.fx.2.1 dX9_mustName_18 rfl (lv_at hl 0 rfl) ?_
      refine r_getI hM.fx hM.kf hH fl_X9_78 (hLC.in hg0 (by decide)) dX9_mustName_19 ?_
      have hr_6 := hH.2.2.i (hLC.in hg0 (by decide)).2.2 (by decide : glg 9 10 = false)
      refine r_isub hM.fx dX9_mustName_22 ?_
      refine lv_bipush (v := gi (8)) hM.fx.1 hM.fx.2.1 dX9_mustName_23 (by decide) ?_
      refine r_icmp_le (tgt := 34) hM.fx (gwi_r _) (gcR (k := 8) (by decide)) dX9_mustName_25 (by decide) (fun h_7 => ?_) (fun h_7 => ?_)
      · have hf := gpos h_7 hf
        obtain rfl := Option.some.inj hf
        exact r_vret hM hH trivial ⟨(Nat.le_of_ble_eq_true rfl), (Nat.le_of_ble_eq_true rfl)⟩ dX9_mustName_34
      · have hf := gneg' h_7 hf
        exact wX9_mustName_28 hLC hM   _ _ _ hg0 hf _ _ _ hH hl
def fX9_of (g : Nat → Nat) (a0 : Nat) (x1 : Int) (x2 : Int) (M : gMem) : Option Int :=
  if (0 : Int) ≤ gwi (gwi (6 + gwi (86 * x1)) + x2) ∧ (gwi (gwi (6 + gwi (86 * x1)) + x2) : Int) < 1190 then some (M (a0 + 1) (gwi (gwi (6 + gwi (86 * x1)) + x2)).toNat) else none
set_option maxHeartbeats 4000000 in
set_option maxRecDepth 100000 in
theorem mX9_of {w : gW} {n : Nat} {Rm : Nat → Nat → Nat} {g : Nat → Nat} (hLC : gLC g n Rm) {l : Launch} (hl9 : l.stackTraces = false) {a0 : Nat} {x1 : Int} {x2 : Int} {M : gMem} {r : Int} (hg0 : g a0 = 9) (hr1 : gRI x1) (hr2 : gRI x2) (hf : fX9_of g a0 x1 x2 M = some r) : gMT w n Rm l yX9_of cX9_of 3 (some .int) 1 60 0 0 [.ref (w.1 + a0), .int (gi x1), .int (gi x2)] M (.inr (some (.int (gi r)))) M (gRI r) := by
  unfold fX9_of at hf
  refine gMT.of hl9 (by decide +kernel) ((Nat.le_of_ble_eq_true rfl)) ?_
  intro p e s m below meth c hM hH ls hl
  have hM : gMC w p l s m ([.ref (w.1 + a0), .int (gi x1), .int (gi x2)] : List Value).toArray meth c cX9_of 3 RX9 (some .int) := hM
  have hl : lv_has ls 3 [(0, .ref (w.1 + a0)), (1, .int (gi x1)), (2, .int (gi x2))] := hl
  refine lv_aload_n hM.fx.1 hM.fx.2.1 dX9_of_0 rfl (lv_at hl 0 rfl) ?_
  refine r_getR hM.fx hM.kf hH hLC fl_X9_7 hg0 gch_9_0 dX9_of_1 ?_
  refine lv_bipush (v := gi (6)) hM.fx.1 hM.fx.2.1 dX9_of_4 (by decide) ?_
  refine lv_bipush (v := gi (86)) hM.fx.1 hM.fx.2.1 dX9_of_6 (by decide) ?_
  refine lv_iload_n hM.fx.1 hM.fx.2.1 dX9_of_8 rfl (lv_at hl 1 rfl) ?_
  refine r_imul hM.fx dX9_of_9 ?_
  refine r_iadd hM.fx dX9_of_10 ?_
  refine lv_iload_n hM.fx.1 hM.fx.2.1 dX9_of_11 rfl (lv_at hl 2 rfl) ?_
  refine r_iadd hM.fx dX9_of_12 ?_
  obtain ⟨g_1, hf⟩ := gif hf
  refine r_iald hM.fx hM.kf hH (hLC.in (hLC.ch hg0 (by decide) gch_9_0) (by decide)) (⟨by decide, by decide⟩ : gAr 19056 0) (gwi_r _) g_1 dX9_of_13 ?_
  have hr_2 := hH.2.2.i (k := (gwi (gwi (6 + gwi (86 * x1)) + x2)).toNat) (hLC.in (hLC.ch hg0 (by decide) gch_9_0) (by decide)).2.2 (glg_a (⟨by decide, by decide⟩ : gAr 19056 0))
  obtain rfl := Option.some.inj hf
  exact r_iret hM hH hr_2 ⟨(Nat.le_of_ble_eq_true rfl), (Nat.le_of_ble_eq_true rfl)⟩ dX9_of_14
def fX9_named_78 (g : Nat → Nat) (k2 : Nat → Int → gMem → Option Int) (k23 : Nat → Int → Int → Int → gMem → Option Int) (a0 : Nat) (x1 : Int) (x3 : Int) (xs0 : Int) (M : gMem) : Option Int :=
  gst (gwi (x3 + 1)) fun x_1 => k23 a0 x1 xs0 x_1 M
set_option maxHeartbeats 4000000 in
set_option maxRecDepth 100000 in
theorem wX9_named_78 {w : gW} {n : Nat} {Rm : Nat → Nat → Nat} {g : Nat → Nat} (hLC : gLC g n Rm) {p : Program} {l : Launch} {e : Env} {s : State} {m : MethodId} {args : Array Value} {below : List Frame} {meth : Method} {c : Code} (hM : gMC w p l s m args meth c cX9_named 4 RX9 (some .int)) (k2 : Nat → Int → gMem → Option Int) (hk2 : ∀ (a0 : Nat) (x1 : Int) (M : gMem) (r : Int) (hg0 : g a0 = 9) (hr1 : gRI x1) (hf : k2 a0 x1 M = some r) (H : Heap) (locs : List Loc) (ls : Array Slot) (hH : gH w n Rm M s H locs) (hl : lv_has ls 4 [(0, .ref (w.1 + a0)), (1, .int (gi x1))]), W p l e { frames := 2, cells := 0, slots := 0, locals := 82 } s m args below meth c H locs 0 0 (gQ w n Rm below args s 0 0 (.inr (some (.int (gi r)))) M (gRI r)) (F0 m 2 ls [])) (k23 : Nat → Int → Int → Int → gMem → Option Int) (hk23 : ∀ (a0 : Nat) (x1 : Int) (x2 : Int) (x3 : Int) (M : gMem) (r : Int) (hg0 : g a0 = 9) (hr1 : gRI x1) (hr2 : gRI x2) (hr3 : gRI x3) (hf : k23 a0 x1 x2 x3 M = some r) (H : Heap) (locs : List Loc) (ls : Array Slot) (hH : gH w n Rm M s H locs) (hl : lv_has ls 4 [(0, .ref (w.1 + a0)), (1, .int (gi x1)), (2, .int (gi x2)), (3, .int (gi x3))]), W p l e { frames := 2, cells := 0, slots := 0, locals := 82 } s m args below meth c H locs 0 0 (gQ w n Rm below args s 0 0 (.inr (some (.int (gi r)))) M (gRI r)) (F0 m 23 ls [])) : ∀ (a0 : Nat) (x1 : Int) (x3 : Int) (xs0 : Int) (M : gMem) (r : Int) (hg0 : g a0 = 9) (hr1 : gRI x1) (hr3 : gRI x3) (hrs0 : gRI xs0) (hf : fX9_named_78 g k2 k23 a0 x1 x3 xs0 M = some r) (H : Heap) (locs : List Loc) (ls : Array Slot) (hH : gH w n Rm M s H locs) (hl : lv_has ls 4 [(0, .ref (w.1 + a0)), (1, .int (gi x1)), (3, .int (gi x3))]), W p l e { frames := 2, cells := 0, slots := 0, locals := 82 } s m args below meth c H locs 0 0 (gQ w n Rm below args s 0 0 (.inr (some (.int (gi r)))) M (gRI r)) (F0 m 78 ls [.int (gi xs0)]) := by
  intro a0 x1 x3 xs0 M r hg0 hr1 hr3 hrs0 hf H locs ls hH hl
  unfold fX9_named_78 at hf
  refine lv_istore_n (lv' := [(2, .int (gi xs0)), (0, .ref (w.1 + a0)), (1, .int (gi x1)), (3, .int (gi x3))]) hM.fx.1 hM.fx.2.1 dX9_named_78 rfl hl (by decide) rfl (fun ls hl => ?_)
  obtain ⟨x_1, ex_1, hf⟩ := gst_s hf
  have hx_1 : gRI x_1 := by rw [ex_1]; exact gwi_r _
  refine r_iinc (lv' := [(3, .int (gi x_1)), (2, .int (gi xs0)), (0, .ref (w.1 + a0)), (1, .int (gi x1))]) hM.fx dX9_named_79 hl (k := 3) rfl (by decide) (by rw [ex_1]; rfl) (fun ls hl => ?_)
  refine lv_goto (tgt := 23) hM.fx.1 hM.fx.2.1 dX9_named_82 (by decide) ?_
  exact hk23 _ _ _ _ _ _ hg0 hr1 hrs0 hx_1 hf _ _ _ hH (lv_sub hl [2, 3, 1, 0] rfl)
def fX9_named_77 (g : Nat → Nat) (k2 : Nat → Int → gMem → Option Int) (k23 : Nat → Int → Int → Int → gMem → Option Int) (a0 : Nat) (x1 : Int) (x3 : Int) (M : gMem) : Option Int :=
  fX9_named_78 g k2 k23 a0 x1 x3 0 M
set_option maxHeartbeats 4000000 in
set_option maxRecDepth 100000 in
theorem wX9_named_77 {w : gW} {n : Nat} {Rm : Nat → Nat → Nat} {g : Nat → Nat} (hLC : gLC g n Rm) {p : Program} {l : Launch} {e : Env} {s : State} {m : MethodId} {args : Array Value} {below : List Frame} {meth : Method} {c : Code} (hM : gMC w p l s m args meth c cX9_named 4 RX9 (some .int)) (k2 : Nat → Int → gMem → Option Int) (hk2 : ∀ (a0 : Nat) (x1 : Int) (M : gMem) (r : Int) (hg0 : g a0 = 9) (hr1 : gRI x1) (hf : k2 a0 x1 M = some r) (H : Heap) (locs : List Loc) (ls : Array Slot) (hH : gH w n Rm M s H locs) (hl : lv_has ls 4 [(0, .ref (w.1 + a0)), (1, .int (gi x1))]), W p l e { frames := 2, cells := 0, slots := 0, locals := 82 } s m args below meth c H locs 0 0 (gQ w n Rm below args s 0 0 (.inr (some (.int (gi r)))) M (gRI r)) (F0 m 2 ls [])) (k23 : Nat → Int → Int → Int → gMem → Option Int) (hk23 : ∀ (a0 : Nat) (x1 : Int) (x2 : Int) (x3 : Int) (M : gMem) (r : Int) (hg0 : g a0 = 9) (hr1 : gRI x1) (hr2 : gRI x2) (hr3 : gRI x3) (hf : k23 a0 x1 x2 x3 M = some r) (H : Heap) (locs : List Loc) (ls : Array Slot) (hH : gH w n Rm M s H locs) (hl : lv_has ls 4 [(0, .ref (w.1 + a0)), (1, .int (gi x1)), (2, .int (gi x2)), (3, .int (gi x3))]), W p l e { frames := 2, cells := 0, slots := 0, locals := 82 } s m args below meth c H locs 0 0 (gQ w n Rm below args s 0 0 (.inr (some (.int (gi r)))) M (gRI r)) (F0 m 23 ls [])) : ∀ (a0 : Nat) (x1 : Int) (x3 : Int) (M : gMem) (r : Int) (hg0 : g a0 = 9) (hr1 : gRI x1) (hr3 : gRI x3) (hf : fX9_named_77 g k2 k23 a0 x1 x3 M = some r) (H : Heap) (locs : List Loc) (ls : Array Slot) (hH : gH w n Rm M s H locs) (hl : lv_has ls 4 [(0, .ref (w.1 + a0)), (1, .int (gi x1)), (3, .int (gi x3))]), W p l e { frames := 2, cells := 0, slots := 0, locals := 82 } s m args below meth c H locs 0 0 (gQ w n Rm below args s 0 0 (.inr (some (.int (gi r)))) M (gRI r)) (F0 m 77 ls []) := by
  intro a0 x1 x3 M r hg0 hr1 hr3 hf H locs ls hH hl
  unfold fX9_named_77 at hf
  refine lv_iconst (v := gi (0)) hM.fx.1 hM.fx.2.1 dX9_named_77 rfl ?_
  exact wX9_named_78 hLC hM k2 hk2 k23 hk23  _ _ _ _ _ _ hg0 hr1 hr3 (gcR (k := 0) (by decide)) hf _ _ _ hH hl
def fX9_named_70 (g : Nat → Nat) (k2 : Nat → Int → gMem → Option Int) (k23 : Nat → Int → Int → Int → gMem → Option Int) (a0 : Nat) (x1 : Int) (x3 : Int) (xs0 : Int) (xs1 : Int) (M : gMem) : Option Int :=
  if xs0 = xs1 then (fX9_named_78 g k2 k23 a0 x1 x3 1 M) else (fX9_named_77 g k2 k23 a0 x1 x3 M)
set_option maxHeartbeats 4000000 in
set_option maxRecDepth 100000 in
theorem wX9_named_70 {w : gW} {n : Nat} {Rm : Nat → Nat → Nat} {g : Nat → Nat} (hLC : gLC g n Rm) {p : Program} {l : Launch} {e : Env} {s : State} {m : MethodId} {args : Array Value} {below : List Frame} {meth : Method} {c : Code} (hM : gMC w p l s m args meth c cX9_named 4 RX9 (some .int)) (k2 : Nat → Int → gMem → Option Int) (hk2 : ∀ (a0 : Nat) (x1 : Int) (M : gMem) (r : Int) (hg0 : g a0 = 9) (hr1 : gRI x1) (hf : k2 a0 x1 M = some r) (H : Heap) (locs : List Loc) (ls : Array Slot) (hH : gH w n Rm M s H locs) (hl : lv_has ls 4 [(0, .ref (w.1 + a0)), (1, .int (gi x1))]), W p l e { frames := 2, cells := 0, slots := 0, locals := 82 } s m args below meth c H locs 0 0 (gQ w n Rm below args s 0 0 (.inr (some (.int (gi r)))) M (gRI r)) (F0 m 2 ls [])) (k23 : Nat → Int → Int → Int → gMem → Option Int) (hk23 : ∀ (a0 : Nat) (x1 : Int) (x2 : Int) (x3 : Int) (M : gMem) (r : Int) (hg0 : g a0 = 9) (hr1 : gRI x1) (hr2 : gRI x2) (hr3 : gRI x3) (hf : k23 a0 x1 x2 x3 M = some r) (H : Heap) (locs : List Loc) (ls : Array Slot) (hH : gH w n Rm M s H locs) (hl : lv_has ls 4 [(0, .ref (w.1 + a0)), (1, .int (gi x1)), (2, .int (gi x2)), (3, .int (gi x3))]), W p l e { frames := 2, cells := 0, slots := 0, locals := 82 } s m args below meth c H locs 0 0 (gQ w n Rm below args s 0 0 (.inr (some (.int (gi r)))) M (gRI r)) (F0 m 23 ls [])) : ∀ (a0 : Nat) (x1 : Int) (x3 : Int) (xs0 : Int) (xs1 : Int) (M : gMem) (r : Int) (hg0 : g a0 = 9) (hr1 : gRI x1) (hr3 : gRI x3) (hrs0 : gRI xs0) (hrs1 : gRI xs1) (hf : fX9_named_70 g k2 k23 a0 x1 x3 xs0 xs1 M = some r) (H : Heap) (locs : List Loc) (ls : Array Slot) (hH : gH w n Rm M s H locs) (hl : lv_has ls 4 [(0, .ref (w.1 + a0)), (1, .int (gi x1)), (3, .int (gi x3))]), W p l e { frames := 2, cells := 0, slots := 0, locals := 82 } s m args below meth c H locs 0 0 (gQ w n Rm below args s 0 0 (.inr (some (.int (gi r)))) M (gRI r)) (F0 m 70 ls [.int (gi xs1), .int (gi xs0)]) := by
  intro a0 x1 x3 xs0 xs1 M r hg0 hr1 hr3 hrs0 hrs1 hf H locs ls hH hl
  unfold fX9_named_70 at hf
  refine r_icmp_ne (tgt := 77) hM.fx hrs0 hrs1 dX9_named_70 (by decide) (fun h_1 => ?_) (fun h_1 => ?_)
  · have hf := gneg' h_1 hf
    exact wX9_named_77 hLC hM k2 hk2 k23 hk23  _ _ _ _ _ hg0 hr1 hr3 hf _ _ _ hH hl
  · have hf := gpos h_1 hf
    refine lv_iconst (v := gi (1)) hM.fx.1 hM.fx.2.1 dX9_named_73 rfl ?_
    refine lv_goto (tgt := 78) hM.fx.1 hM.fx.2.1 dX9_named_74 (by decide) ?_
    exact wX9_named_78 hLC hM k2 hk2 k23 hk23  _ _ _ _ _ _ hg0 hr1 hr3 (gcR (k := 1) (by decide)) hf _ _ _ hH hl
def fX9_named_23 (g : Nat → Nat) (k2 : Nat → Int → gMem → Option Int) : Nat → Nat → Int → Int → Int → gMem → Option Int
  | 0, _, _, _, _, _ => none
  | fu + 1, a0, x1, x2, x3, M => if 8 ≤ x3 then (if x2 = 0 then (gst (gwi (x1 + 1)) fun x_3 => k2 a0 x_3 M) else (some x1)) else (if x2 = 0 then (fX9_named_77 g k2 (fX9_named_23 g k2 fu) a0 x1 x3 M) else ((fX9_of g a0 x1 (gwi (10 + x3)) M).bind fun x_6 => if M a0 11 ≤ gwi (M a0 10 + x3) then (fX9_named_70 g k2 (fX9_named_23 g k2 fu) a0 x1 x3 x_6 0 M) else (if (0 : Int) ≤ gwi (M a0 10 + x3) ∧ (gwi (M a0 10 + x3) : Int) < 600 then fX9_named_70 g k2 (fX9_named_23 g k2 fu) a0 x1 x3 x_6 (M (a0 + 7) (gwi (M a0 10 + x3)).toNat) M else none)))
set_option maxHeartbeats 4000000 in
set_option maxRecDepth 100000 in
theorem wX9_named_23 {w : gW} {n : Nat} {Rm : Nat → Nat → Nat} {g : Nat → Nat} (hLC : gLC g n Rm) {p : Program} {l : Launch} {e : Env} {s : State} {m : MethodId} {args : Array Value} {below : List Frame} {meth : Method} {c : Code} (hM : gMC w p l s m args meth c cX9_named 4 RX9 (some .int)) (k2 : Nat → Int → gMem → Option Int) (hk2 : ∀ (a0 : Nat) (x1 : Int) (M : gMem) (r : Int) (hg0 : g a0 = 9) (hr1 : gRI x1) (hf : k2 a0 x1 M = some r) (H : Heap) (locs : List Loc) (ls : Array Slot) (hH : gH w n Rm M s H locs) (hl : lv_has ls 4 [(0, .ref (w.1 + a0)), (1, .int (gi x1))]), W p l e { frames := 2, cells := 0, slots := 0, locals := 82 } s m args below meth c H locs 0 0 (gQ w n Rm below args s 0 0 (.inr (some (.int (gi r)))) M (gRI r)) (F0 m 2 ls [])) : ∀ (fu : Nat), ∀ (a0 : Nat) (x1 : Int) (x2 : Int) (x3 : Int) (M : gMem) (r : Int) (hg0 : g a0 = 9) (hr1 : gRI x1) (hr2 : gRI x2) (hr3 : gRI x3) (hf : fX9_named_23 g k2 fu a0 x1 x2 x3 M = some r) (H : Heap) (locs : List Loc) (ls : Array Slot) (hH : gH w n Rm M s H locs) (hl : lv_has ls 4 [(0, .ref (w.1 + a0)), (1, .int (gi x1)), (2, .int (gi x2)), (3, .int (gi x3))]), W p l e { frames := 2, cells := 0, slots := 0, locals := 82 } s m args below meth c H locs 0 0 (gQ w n Rm below args s 0 0 (.inr (some (.int (gi r)))) M (gRI r)) (F0 m 23 ls []) := by
  intro fu
  induction fu with
  | zero =>
    intro a0 x1 x2 x3 M r hg0 hr1 hr2 hr3 hf H locs ls hH hl
    exact absurd hf (by simp [fX9_named_23])
  | succ fu ih =>
    intro a0 x1 x2 x3 M r hg0 hr1 hr2 hr3 hf H locs ls hH hl
    unfold fX9_named_23 at hf
    refine lv_iload_n hM.fx.1 hM.fx.2.1 dX9_named_23 rfl (lv_at hl 3 rfl) ?_
    refine lv_bipush (v := gi (8)) hM.fx.1 hM.fx.2.1 dX9_named_24 (by decide) ?_
    refine r_icmp_ge (tgt := 85) hM.fx hr3 (gcR (k := 8) (by decide)) dX9_named_26 (by decide) (fun h_1 => ?_) (fun h_1 => ?_)
    · have hf := gpos h_1 hf
      refine lv_iload_n hM.fx.1 hM.fx.2.1 dX9_named_85 rfl (lv_at hl 2 rfl) ?_
      refine r_if_eq (tgt := 91) hM.fx hr2 dX9_named_86 (by decide) (fun h_2 => ?_) (fun h_2 => ?_)
      · have hf := gpos h_2 hf
        obtain ⟨x_3, ex_3, hf⟩ := gst_s hf
        have hx_3 : gRI x_3 := by rw [ex_3]; exact gwi_r _
        refine r_iinc (lv' := [(1, .int (gi x_3)), (0, .ref (w.1 + a0)), (2, .int (gi x2)), (3, .int (gi x3))]) hM.fx dX9_named_91 hl (k := 1) rfl (by decide) (by rw [ex_3]; rfl) (fun ls hl => ?_)
        refine lv_goto (tgt := 2) hM.fx.1 hM.fx.2.1 dX9_named_94 (by decide) ?_
        exact hk2 _ _ _ _ hg0 hx_3 hf _ _ _ hH (lv_sub hl [1, 0] rfl)
      · have hf := gneg' h_2 hf
        refine lv_iload_n hM.fx.1 hM.fx.2.1 dX9_named_89 rfl (lv_at hl 1 rfl) ?_
        obtain rfl := Option.some.inj hf
        exact r_iret hM hH hr1 ⟨(Nat.le_of_ble_eq_true rfl), (Nat.le_of_ble_eq_true rfl)⟩ dX9_named_90
    · have hf := gneg' h_1 hf
      refine lv_iload_n hM.fx.1 hM.fx.2.1 dX9_named_29 rfl (lv_at hl 2 rfl) ?_
      refine r_if_eq (tgt := 77) hM.fx hr2 dX9_named_30 (by decide) (fun h_4 => ?_) (fun h_4 => ?_)
      · have hf := gpos h_4 hf
        exact wX9_named_77 hLC hM k2 hk2 (fX9_named_23 g k2 fu) ih  _ _ _ _ _ hg0 hr1 hr3 hf _ _ _ hH (lv_sub hl [0, 1, 3] rfl)
      · have hf := gneg' h_4 hf
        refine lv_aload_n hM.fx.1 hM.fx.2.1 dX9_named_33 rfl (lv_at hl 0 rfl) ?_
        refine lv_iload_n hM.fx.1 hM.fx.2.1 dX9_named_34 rfl (lv_at hl 1 rfl) ?_
        refine lv_bipush (v := gi (10)) hM.fx.1 hM.fx.2.1 dX9_named_35 (by decide) ?_
        refine lv_iload_n hM.fx.1 hM.fx.2.1 dX9_named_37 rfl (lv_at hl 3 rfl) ?_
        refine r_iadd hM.fx dX9_named_38 ?_
        obtain ⟨x_6, ex_6, hf⟩ := gbd hf
        refine r_go1 hH rfl (r_runV (As := [.int (gi x1), .int (gi (gwi (10 + x3)))]) hM hH cv_X9_135 (mX9_of hLC hM.ns hg0 hr1 (gwi_r _) ex_6) (hLC.in hg0 (by decide)) (by decide) rfl rfl rfl hl.1 rfl (Nat.le_of_ble_eq_true rfl) ⟨(Nat.le_of_ble_eq_true rfl), (Nat.le_of_ble_eq_true rfl)⟩ ⟨(Nat.le_of_ble_eq_true rfl), (Nat.le_of_ble_eq_true rfl)⟩ dX9_named_39) (fun hp_5 H locs hH => ?_)
        refine lv_aload_n hM.fx.1 hM.fx.2.1 dX9_named_42 rfl (lv_at hl 0 rfl) ?_
        refine r_getI hM.fx hM.kf hH fl_X9_78 (hLC.in hg0 (by decide)) dX9_named_43 ?_
        have hr_7 := hH.2.2.i (hLC.in hg0 (by decide)).2.2 (by decide : glg 9 10 = false)
        refine lv_iload_n hM.fx.1 hM.fx.2.1 dX9_named_46 rfl (lv_at hl 3 rfl) ?_
        refine r_iadd hM.fx dX9_named_47 ?_
        refine lv_aload_n hM.fx.1 hM.fx.2.1 dX9_named_48 rfl (lv_at hl 0 rfl) ?_
        refine r_getI hM.fx hM.kf hH fl_X9_75 (hLC.in hg0 (by decide)) dX9_named_49 ?_
        have hr_8 := hH.2.2.i (hLC.in hg0 (by decide)).2.2 (by decide : glg 9 11 = false)
        refine r_icmp_ge (tgt := 69) hM.fx (gwi_r _) hr_8 dX9_named_52 (by decide) (fun h_9 => ?_) (fun h_9 => ?_)
        · have hf := gpos h_9 hf
          refine lv_iconst (v := gi (0)) hM.fx.1 hM.fx.2.1 dX9_named_69 rfl ?_
          exact wX9_named_70 hLC hM k2 hk2 (fX9_named_23 g k2 fu) ih  _ _ _ _ _ _ _ hg0 hr1 hr3 hp_5 (gcR (k := 0) (by decide)) hf _ _ _ hH (lv_sub hl [0, 1, 3] rfl)
        · have hf := gneg' h_9 hf
          refine lv_aload_n hM.fx.1 hM.fx.2.1 dX9_named_55 rfl (lv_at hl 0 rfl) ?_
          refine r_getR hM.fx hM.kf hH hLC fl_X9_29 hg0 gch_9_8 dX9_named_56 ?_
          refine lv_aload_n hM.fx.1 hM.fx.2.1 dX9_named_59 rfl (lv_at hl 0 rfl) ?_
          refine r_getI hM.fx hM.kf hH fl_X9_78 (hLC.in hg0 (by decide)) dX9_named_60 ?_
          have hr_10 := hH.2.2.i (hLC.in hg0 (by decide)).2.2 (by decide : glg 9 10 = false)
          refine lv_iload_n hM.fx.1 hM.fx.2.1 dX9_named_63 rfl (lv_at hl 3 rfl) ?_
          refine r_iadd hM.fx dX9_named_64 ?_
          obtain ⟨g_11, hf⟩ := gif hf
          refine r_iald hM.fx hM.kf hH (hLC.in (hLC.ch hg0 (by decide) gch_9_8) (by decide)) (⟨by decide, by decide⟩ : gAr 9616 0) (gwi_r _) g_11 dX9_named_65 ?_
          have hr_12 := hH.2.2.i (k := (gwi (M a0 10 + x3)).toNat) (hLC.in (hLC.ch hg0 (by decide) gch_9_8) (by decide)).2.2 (glg_a (⟨by decide, by decide⟩ : gAr 9616 0))
          refine lv_goto (tgt := 70) hM.fx.1 hM.fx.2.1 dX9_named_66 (by decide) ?_
          exact wX9_named_70 hLC hM k2 hk2 (fX9_named_23 g k2 fu) ih  _ _ _ _ _ _ _ hg0 hr1 hr3 hp_5 hr_12 hf _ _ _ hH (lv_sub hl [0, 1, 3] rfl)
def fX9_named_2 (g : Nat → Nat)  : Nat → Nat → Int → gMem → Option Int
  | 0, _, _, _ => none
  | fu + 1, a0, x1, M => if (0 : Int) ≤ 1 ∧ (1 : Int) < 1190 then if M (a0 + 1) (1 : Int).toNat ≤ x1 then (some (-1)) else (if M a0 14 = 0 then (fX9_named_23 g (fX9_named_2 g fu) gF a0 x1 1 0 M) else (some (-1))) else none
set_option maxHeartbeats 4000000 in
set_option maxRecDepth 100000 in
theorem wX9_named_2 {w : gW} {n : Nat} {Rm : Nat → Nat → Nat} {g : Nat → Nat} (hLC : gLC g n Rm) {p : Program} {l : Launch} {e : Env} {s : State} {m : MethodId} {args : Array Value} {below : List Frame} {meth : Method} {c : Code} (hM : gMC w p l s m args meth c cX9_named 4 RX9 (some .int))  : ∀ (fu : Nat), ∀ (a0 : Nat) (x1 : Int) (M : gMem) (r : Int) (hg0 : g a0 = 9) (hr1 : gRI x1) (hf : fX9_named_2 g fu a0 x1 M = some r) (H : Heap) (locs : List Loc) (ls : Array Slot) (hH : gH w n Rm M s H locs) (hl : lv_has ls 4 [(0, .ref (w.1 + a0)), (1, .int (gi x1))]), W p l e { frames := 2, cells := 0, slots := 0, locals := 82 } s m args below meth c H locs 0 0 (gQ w n Rm below args s 0 0 (.inr (some (.int (gi r)))) M (gRI r)) (F0 m 2 ls []) := by
  intro fu
  induction fu with
  | zero =>
    intro a0 x1 M r hg0 hr1 hf H locs ls hH hl
    exact absurd hf (by simp [fX9_named_2])
  | succ fu ih =>
    intro a0 x1 M r hg0 hr1 hf H locs ls hH hl
    unfold fX9_named_2 at hf
    refine lv_iload_n hM.fx.1 hM.fx.2.1 dX9_named_2 rfl (lv_at hl 1 rfl) ?_
    refine lv_aload_n hM.fx.1 hM.fx.2.1 dX9_named_3 rfl (lv_at hl 0 rfl) ?_
    refine r_getR hM.fx hM.kf hH hLC fl_X9_7 hg0 gch_9_0 dX9_named_4 ?_
    refine lv_iconst (v := gi (1)) hM.fx.1 hM.fx.2.1 dX9_named_7 rfl ?_
    obtain ⟨g_1, hf⟩ := gif hf
    refine r_iald hM.fx hM.kf hH (hLC.in (hLC.ch hg0 (by decide) gch_9_0) (by decide)) (⟨by decide, by decide⟩ : gAr 19056 0) (gcR (k := 1) (by decide)) g_1 dX9_named_8 ?_
    have hr_2 := hH.2.2.i (k := (1 : Int).toNat) (hLC.in (hLC.ch hg0 (by decide) gch_9_0) (by decide)).2.2 (glg_a (⟨by decide, by decide⟩ : gAr 19056 0))
    refine r_icmp_ge (tgt := 97) hM.fx hr1 hr_2 dX9_named_9 (by decide) (fun h_3 => ?_) (fun h_3 => ?_)
    · have hf := gpos h_3 hf
      refine lv_iconst (v := gi (-1)) hM.fx.1 hM.fx.2.1 dX9_named_97 rfl ?_
      obtain rfl := Option.some.inj hf
      exact r_iret hM hH (gcR (k := -1) (by decide)) ⟨(Nat.le_of_ble_eq_true rfl), (Nat.le_of_ble_eq_true rfl)⟩ dX9_named_98
    · have hf := gneg' h_3 hf
      refine lv_aload_n hM.fx.1 hM.fx.2.1 dX9_named_12 rfl (lv_at hl 0 rfl) ?_
      refine r_getI hM.fx hM.kf hH fl_X9_101 (hLC.in hg0 (by decide)) dX9_named_13 ?_
      have hr_4 := hH.2.2.i (hLC.in hg0 (by decide)).2.2 (by decide : glg 9 14 = false)
      refine r_if_ne (tgt := 97) hM.fx hr_4 dX9_named_16 (by decide) (fun h_5 => ?_) (fun h_5 => ?_)
      · have hf := gneg' h_5 hf
        refine lv_iconst (v := gi (-1)) hM.fx.1 hM.fx.2.1 dX9_named_97 rfl ?_
        obtain rfl := Option.some.inj hf
        exact r_iret hM hH (gcR (k := -1) (by decide)) ⟨(Nat.le_of_ble_eq_true rfl), (Nat.le_of_ble_eq_true rfl)⟩ dX9_named_98
      · have hf := gpos h_5 hf
        refine lv_iconst (v := gi (1)) hM.fx.1 hM.fx.2.1 dX9_named_19 rfl ?_
        refine lv_istore_n (lv' := [(2, .int (gi 1)), (0, .ref (w.1 + a0)), (1, .int (gi x1))]) hM.fx.1 hM.fx.2.1 dX9_named_20 rfl hl (by decide) rfl (fun ls hl => ?_)
        refine lv_iconst (v := gi (0)) hM.fx.1 hM.fx.2.1 dX9_named_21 rfl ?_
        refine lv_istore_n (lv' := [(3, .int (gi 0)), (2, .int (gi 1)), (0, .ref (w.1 + a0)), (1, .int (gi x1))]) hM.fx.1 hM.fx.2.1 dX9_named_22 rfl hl (by decide) rfl (fun ls hl => ?_)
        exact wX9_named_23 hLC hM (fX9_named_2 g fu) ih gF _ _ _ _ _ _ hg0 hr1 (gcR (k := 1) (by decide)) (gcR (k := 0) (by decide)) hf _ _ _ hH (lv_sub hl [2, 3, 1, 0] rfl)
def fX9_named (g : Nat → Nat) (a0 : Nat) (M : gMem) : Option Int :=
  fX9_named_2 g gF a0 0 M
set_option maxHeartbeats 4000000 in
set_option maxRecDepth 100000 in
theorem mX9_named {w : gW} {n : Nat} {Rm : Nat → Nat → Nat} {g : Nat → Nat} (hLC : gLC g n Rm) {l : Launch} (hl9 : l.stackTraces = false) {a0 : Nat} {M : gMem} {r : Int} (hg0 : g a0 = 9) (hf : fX9_named g a0 M = some r) : gMT w n Rm l yX9_named cX9_named 4 (some .int) 2 82 0 0 [.ref (w.1 + a0)] M (.inr (some (.int (gi r)))) M (gRI r) := by
  unfold fX9_named at hf
  refine gMT.of hl9 (by decide +kernel) ((Nat.le_of_ble_eq_true rfl)) ?_
  intro p e s m below meth c hM hH ls hl
  have hM : gMC w p l s m ([.ref (w.1 + a0)] : List Value).toArray meth c cX9_named 4 RX9 (some .int) := hM
  have hl : lv_has ls 4 [(0, .ref (w.1 + a0))] := hl
  refine lv_iconst (v := gi (0)) hM.fx.1 hM.fx.2.1 dX9_named_0 rfl ?_
  refine lv_istore_n (lv' := [(1, .int (gi 0)), (0, .ref (w.1 + a0))]) hM.fx.1 hM.fx.2.1 dX9_named_1 rfl hl (by decide) rfl (fun ls hl => ?_)
  exact wX9_named_2 hLC hM  gF _ _ _ _ hg0 (gcR (k := 0) (by decide)) hf _ _ _ hH (lv_sub hl [1, 0] rfl)
def fX9_wordOf (g : Nat → Nat) (x0 : Int) : Option Nat :=
  if x0 = 0 then (some 44) else (if x0 = 1 then (some 45) else (if x0 = 2 then (some 46) else (if x0 = 3 then (some 47) else (if x0 = 4 then (some 48) else (if x0 = 5 then (some 49) else (if x0 = 6 then (some 50) else (if x0 = 7 then (some 51) else (if x0 = 8 then (some 52) else (if x0 = 9 then (some 53) else (if x0 = 10 then (some 54) else (if x0 = 11 then (some 55) else (if x0 = 12 then (some 56) else (some 57)))))))))))))
set_option maxHeartbeats 4000000 in
set_option maxRecDepth 100000 in
theorem mX9_wordOf {w : gW} {n : Nat} {Rm : Nat → Nat → Nat} {g : Nat → Nat} (hLC : gLC g n Rm) {l : Launch} (hl9 : l.stackTraces = false) {x0 : Int} {M : gMem} {r : Nat} (hr0 : gRI x0) (hf : fX9_wordOf g x0 = some r) : gMT w n Rm l yX9_wordOf cX9_wordOf 1 (some (.object "java/lang/String")) 1 60 0 0 [.int (gi x0)] M (.inr (some (gsR w r))) M (gtx r ≠ []) := by
  unfold fX9_wordOf at hf
  refine gMT.of hl9 (by decide +kernel) ((Nat.le_of_ble_eq_true rfl)) ?_
  intro p e s m below meth c hM hH ls hl
  have hM : gMC w p l s m ([.int (gi x0)] : List Value).toArray meth c cX9_wordOf 1 RX9 (some (.object "java/lang/String")) := hM
  have hl : lv_has ls 1 [(0, .int (gi x0))] := hl
  refine lv_iload_n hM.fx.1 hM.fx.2.1 dX9_wordOf_0 rfl (lv_at hl 0 rfl) ?_
  by_cases h_1 : x0 = 0
  · refine r_tsIn (tgt := 68) hM.fx hr0 0 dX9_wordOf_1 h_1 (by decide) rfl (by decide) ?_
    have hf := gpos h_1 hf
    refine r_ldcS (tx := "push") hM.fx hM.kf 44 rfl dX9_wordOf_68 ?_
    obtain rfl := Option.some.inj hf
    exact r_aretV hM hH (Or.inr ⟨_, rfl⟩) (by decide : gtx 44 ≠ []) ⟨(Nat.le_of_ble_eq_true rfl), (Nat.le_of_ble_eq_true rfl)⟩ dX9_wordOf_70
  · have hf := gneg' h_1 hf
    by_cases h_2 : x0 = 1
    · refine r_tsIn (tgt := 71) hM.fx hr0 1 dX9_wordOf_1 h_2 (by decide) rfl (by decide) ?_
      have hf := gpos h_2 hf
      refine r_ldcS (tx := "pop") hM.fx hM.kf 45 rfl dX9_wordOf_71 ?_
      obtain rfl := Option.some.inj hf
      exact r_aretV hM hH (Or.inr ⟨_, rfl⟩) (by decide : gtx 45 ≠ []) ⟨(Nat.le_of_ble_eq_true rfl), (Nat.le_of_ble_eq_true rfl)⟩ dX9_wordOf_73
    · have hf := gneg' h_2 hf
      by_cases h_3 : x0 = 2
      · refine r_tsIn (tgt := 74) hM.fx hr0 2 dX9_wordOf_1 h_3 (by decide) rfl (by decide) ?_
        have hf := gpos h_3 hf
        refine r_ldcS (tx := "dup") hM.fx hM.kf 46 rfl dX9_wordOf_74 ?_
        obtain rfl := Option.some.inj hf
        exact r_aretV hM hH (Or.inr ⟨_, rfl⟩) (by decide : gtx 46 ≠ []) ⟨(Nat.le_of_ble_eq_true rfl), (Nat.le_of_ble_eq_true rfl)⟩ dX9_wordOf_76
      · have hf := gneg' h_3 hf
        by_cases h_4 : x0 = 3
        · refine r_tsIn (tgt := 77) hM.fx hr0 3 dX9_wordOf_1 h_4 (by decide) rfl (by decide) ?_
          have hf := gpos h_4 hf
          refine r_ldcS (tx := "flip") hM.fx hM.kf 47 rfl dX9_wordOf_77 ?_
          obtain rfl := Option.some.inj hf
          exact r_aretV hM hH (Or.inr ⟨_, rfl⟩) (by decide : gtx 47 ≠ []) ⟨(Nat.le_of_ble_eq_true rfl), (Nat.le_of_ble_eq_true rfl)⟩ dX9_wordOf_79
        · have hf := gneg' h_4 hf
          by_cases h_5 : x0 = 4
          · refine r_tsIn (tgt := 80) hM.fx hr0 4 dX9_wordOf_1 h_5 (by decide) rfl (by decide) ?_
            have hf := gpos h_5 hf
            refine r_ldcS (tx := "add") hM.fx hM.kf 48 rfl dX9_wordOf_80 ?_
            obtain rfl := Option.some.inj hf
            exact r_aretV hM hH (Or.inr ⟨_, rfl⟩) (by decide : gtx 48 ≠ []) ⟨(Nat.le_of_ble_eq_true rfl), (Nat.le_of_ble_eq_true rfl)⟩ dX9_wordOf_82
          · have hf := gneg' h_5 hf
            by_cases h_6 : x0 = 5
            · refine r_tsIn (tgt := 83) hM.fx hr0 5 dX9_wordOf_1 h_6 (by decide) rfl (by decide) ?_
              have hf := gpos h_6 hf
              refine r_ldcS (tx := "sub") hM.fx hM.kf 49 rfl dX9_wordOf_83 ?_
              obtain rfl := Option.some.inj hf
              exact r_aretV hM hH (Or.inr ⟨_, rfl⟩) (by decide : gtx 49 ≠ []) ⟨(Nat.le_of_ble_eq_true rfl), (Nat.le_of_ble_eq_true rfl)⟩ dX9_wordOf_85
            · have hf := gneg' h_6 hf
              by_cases h_7 : x0 = 6
              · refine r_tsIn (tgt := 86) hM.fx hr0 6 dX9_wordOf_1 h_7 (by decide) rfl (by decide) ?_
                have hf := gpos h_7 hf
                refine r_ldcS (tx := "mul") hM.fx hM.kf 50 rfl dX9_wordOf_86 ?_
                obtain rfl := Option.some.inj hf
                exact r_aretV hM hH (Or.inr ⟨_, rfl⟩) (by decide : gtx 50 ≠ []) ⟨(Nat.le_of_ble_eq_true rfl), (Nat.le_of_ble_eq_true rfl)⟩ dX9_wordOf_88
              · have hf := gneg' h_7 hf
                by_cases h_8 : x0 = 7
                · refine r_tsIn (tgt := 89) hM.fx hr0 7 dX9_wordOf_1 h_8 (by decide) rfl (by decide) ?_
                  have hf := gpos h_8 hf
                  refine r_ldcS (tx := "say") hM.fx hM.kf 51 rfl dX9_wordOf_89 ?_
                  obtain rfl := Option.some.inj hf
                  exact r_aretV hM hH (Or.inr ⟨_, rfl⟩) (by decide : gtx 51 ≠ []) ⟨(Nat.le_of_ble_eq_true rfl), (Nat.le_of_ble_eq_true rfl)⟩ dX9_wordOf_91
                · have hf := gneg' h_8 hf
                  by_cases h_9 : x0 = 8
                  · refine r_tsIn (tgt := 92) hM.fx hr0 8 dX9_wordOf_1 h_9 (by decide) rfl (by decide) ?_
                    have hf := gpos h_9 hf
                    refine r_ldcS (tx := "lay") hM.fx hM.kf 52 rfl dX9_wordOf_92 ?_
                    obtain rfl := Option.some.inj hf
                    exact r_aretV hM hH (Or.inr ⟨_, rfl⟩) (by decide : gtx 52 ≠ []) ⟨(Nat.le_of_ble_eq_true rfl), (Nat.le_of_ble_eq_true rfl)⟩ dX9_wordOf_94
                  · have hf := gneg' h_9 hf
                    by_cases h_10 : x0 = 9
                    · refine r_tsIn (tgt := 95) hM.fx hr0 9 dX9_wordOf_1 h_10 (by decide) rfl (by decide) ?_
                      have hf := gpos h_10 hf
                      refine r_ldcS (tx := "take") hM.fx hM.kf 53 rfl dX9_wordOf_95 ?_
                      obtain rfl := Option.some.inj hf
                      exact r_aretV hM hH (Or.inr ⟨_, rfl⟩) (by decide : gtx 53 ≠ []) ⟨(Nat.le_of_ble_eq_true rfl), (Nat.le_of_ble_eq_true rfl)⟩ dX9_wordOf_97
                    · have hf := gneg' h_10 hf
                      by_cases h_11 : x0 = 10
                      · refine r_tsIn (tgt := 98) hM.fx hr0 10 dX9_wordOf_1 h_11 (by decide) rfl (by decide) ?_
                        have hf := gpos h_11 hf
                        refine r_ldcS (tx := "swap") hM.fx hM.kf 54 rfl dX9_wordOf_98 ?_
                        obtain rfl := Option.some.inj hf
                        exact r_aretV hM hH (Or.inr ⟨_, rfl⟩) (by decide : gtx 54 ≠ []) ⟨(Nat.le_of_ble_eq_true rfl), (Nat.le_of_ble_eq_true rfl)⟩ dX9_wordOf_100
                      · have hf := gneg' h_11 hf
                        by_cases h_12 : x0 = 11
                        · refine r_tsIn (tgt := 101) hM.fx hr0 11 dX9_wordOf_1 h_12 (by decide) rfl (by decide) ?_
                          have hf := gpos h_12 hf
                          refine r_ldcS (tx := "jump") hM.fx hM.kf 55 rfl dX9_wordOf_101 ?_
                          obtain rfl := Option.some.inj hf
                          exact r_aretV hM hH (Or.inr ⟨_, rfl⟩) (by decide : gtx 55 ≠ []) ⟨(Nat.le_of_ble_eq_true rfl), (Nat.le_of_ble_eq_true rfl)⟩ dX9_wordOf_103
                        · have hf := gneg' h_12 hf
                          by_cases h_13 : x0 = 12
                          · refine r_tsIn (tgt := 104) hM.fx hr0 12 dX9_wordOf_1 h_13 (by decide) rfl (by decide) ?_
                            have hf := gpos h_13 hf
                            refine r_ldcS (tx := "zero") hM.fx hM.kf 56 rfl dX9_wordOf_104 ?_
                            obtain rfl := Option.some.inj hf
                            exact r_aretV hM hH (Or.inr ⟨_, rfl⟩) (by decide : gtx 56 ≠ []) ⟨(Nat.le_of_ble_eq_true rfl), (Nat.le_of_ble_eq_true rfl)⟩ dX9_wordOf_106
                          · have hf := gneg' h_13 hf
                            refine r_tsOut (tgt := 107) hM.fx hr0 dX9_wordOf_1 (by omega) (by decide) ?_
                            refine r_ldcS (tx := "halt") hM.fx hM.kf 57 rfl dX9_wordOf_107 ?_
                            obtain rfl := Option.some.inj hf
                            exact r_aretV hM hH (Or.inr ⟨_, rfl⟩) (by decide : gtx 57 ≠ []) ⟨(Nat.le_of_ble_eq_true rfl), (Nat.le_of_ble_eq_true rfl)⟩ dX9_wordOf_109
def fX9_codeHere_2 (g : Nat → Nat)  : Nat → Nat → Int → gMem → Option Int
  | 0, _, _, _ => none
  | fu + 1, a0, x1, M => if 13 < x1 then (some (-1)) else ((fX9_wordOf g x1).bind fun t_3 => (fX9_isWord g a0 t_3 M).bind fun x_5 => if x_5 = 0 then (gst (gwi (x1 + 1)) fun x_7 => fX9_codeHere_2 g fu a0 x_7 M) else (some x1))
set_option maxHeartbeats 4000000 in
set_option maxRecDepth 100000 in
theorem wX9_codeHere_2 {w : gW} {n : Nat} {Rm : Nat → Nat → Nat} {g : Nat → Nat} (hLC : gLC g n Rm) {p : Program} {l : Launch} {e : Env} {s : State} {m : MethodId} {args : Array Value} {below : List Frame} {meth : Method} {c : Code} (hM : gMC w p l s m args meth c cX9_codeHere 2 RX9 (some .int))  : ∀ (fu : Nat), ∀ (a0 : Nat) (x1 : Int) (M : gMem) (r : Int) (hg0 : g a0 = 9) (hr1 : gRI x1) (hf : fX9_codeHere_2 g fu a0 x1 M = some r) (H : Heap) (locs : List Loc) (ls : Array Slot) (hH : gH w n Rm M s H locs) (hl : lv_has ls 2 [(0, .ref (w.1 + a0)), (1, .int (gi x1))]), W p l e { frames := 9, cells := 0, slots := 0, locals := 272 } s m args below meth c H locs 0 0 (gQ w n Rm below args s 0 0 (.inr (some (.int (gi r)))) M (gRI r)) (F0 m 2 ls []) := by
  intro fu
  induction fu with
  | zero =>
    intro a0 x1 M r hg0 hr1 hf H locs ls hH hl
    exact absurd hf (by simp [fX9_codeHere_2])
  | succ fu ih =>
    intro a0 x1 M r hg0 hr1 hf H locs ls hH hl
    unfold fX9_codeHere_2 at hf
    refine lv_iload_n hM.fx.1 hM.fx.2.1 dX9_codeHere_2 rfl (lv_at hl 1 rfl) ?_
    refine lv_bipush (v := gi (13)) hM.fx.1 hM.fx.2.1 dX9_codeHere_3 (by decide) ?_
    refine r_icmp_gt (tgt := 27) hM.fx hr1 (gcR (k := 13) (by decide)) dX9_codeHere_5 (by decide) (fun h_1 => ?_) (fun h_1 => ?_)
    · have hf := gpos h_1 hf
      refine lv_iconst (v := gi (-1)) hM.fx.1 hM.fx.2.1 dX9_codeHere_27 rfl ?_
      obtain rfl := Option.some.inj hf
      exact r_iret hM hH (gcR (k := -1) (by decide)) ⟨(Nat.le_of_ble_eq_true rfl), (Nat.le_of_ble_eq_true rfl)⟩ dX9_codeHere_28
    · have hf := gneg' h_1 hf
      refine lv_aload_n hM.fx.1 hM.fx.2.1 dX9_codeHere_8 rfl (lv_at hl 0 rfl) ?_
      refine lv_iload_n hM.fx.1 hM.fx.2.1 dX9_codeHere_9 rfl (lv_at hl 1 rfl) ?_
      obtain ⟨t_3, et_3, hf⟩ := gbd hf
      refine r_go1 hH rfl (r_runS (As := [.int (gi x1)]) hM hH cs_X9_166 (mX9_wordOf hLC hM.ns hr1 et_3) rfl hl.1 rfl (Nat.le_of_ble_eq_true rfl) ⟨(Nat.le_of_ble_eq_true rfl), (Nat.le_of_ble_eq_true rfl)⟩ ⟨(Nat.le_of_ble_eq_true rfl), (Nat.le_of_ble_eq_true rfl)⟩ dX9_codeHere_10) (fun hp_2 H locs hH => ?_)
      obtain ⟨x_5, ex_5, hf⟩ := gbd hf
      refine r_go1 hH rfl (r_runV (As := [gsR w t_3]) hM hH cv_X9_170 (mX9_isWord hLC hM.ns hg0 hp_2 ex_5) (hLC.in hg0 (by decide)) (by decide) rfl rfl rfl hl.1 rfl (Nat.le_of_ble_eq_true rfl) ⟨(Nat.le_of_ble_eq_true rfl), (Nat.le_of_ble_eq_true rfl)⟩ ⟨(Nat.le_of_ble_eq_true rfl), (Nat.le_of_ble_eq_true rfl)⟩ dX9_codeHere_13) (fun hp_4 H locs hH => ?_)
      refine r_if_eq (tgt := 21) hM.fx (gz_r hp_4) dX9_codeHere_16 (by decide) (fun h_6 => ?_) (fun h_6 => ?_)
      · have hf := gpos h_6 hf
        obtain ⟨x_7, ex_7, hf⟩ := gst_s hf
        have hx_7 : gRI x_7 := by rw [ex_7]; exact gwi_r _
        refine r_iinc (lv' := [(1, .int (gi x_7)), (0, .ref (w.1 + a0))]) hM.fx dX9_codeHere_21 hl (k := 1) rfl (by decide) (by rw [ex_7]; rfl) (fun ls hl => ?_)
        refine lv_goto (tgt := 2) hM.fx.1 hM.fx.2.1 dX9_codeHere_24 (by decide) ?_
        exact ih _ _ _ _ hg0 hx_7 hf _ _ _ hH (lv_sub hl [1, 0] rfl)
      · have hf := gneg' h_6 hf
        refine lv_iload_n hM.fx.1 hM.fx.2.1 dX9_codeHere_19 rfl (lv_at hl 1 rfl) ?_
        obtain rfl := Option.some.inj hf
        exact r_iret hM hH hr1 ⟨(Nat.le_of_ble_eq_true rfl), (Nat.le_of_ble_eq_true rfl)⟩ dX9_codeHere_20
def fX9_codeHere (g : Nat → Nat) (a0 : Nat) (M : gMem) : Option Int :=
  fX9_codeHere_2 g gF a0 0 M
set_option maxHeartbeats 4000000 in
set_option maxRecDepth 100000 in
theorem mX9_codeHere {w : gW} {n : Nat} {Rm : Nat → Nat → Nat} {g : Nat → Nat} (hLC : gLC g n Rm) {l : Launch} (hl9 : l.stackTraces = false) {a0 : Nat} {M : gMem} {r : Int} (hg0 : g a0 = 9) (hf : fX9_codeHere g a0 M = some r) : gMT w n Rm l yX9_codeHere cX9_codeHere 2 (some .int) 9 272 0 0 [.ref (w.1 + a0)] M (.inr (some (.int (gi r)))) M (gRI r) := by
  unfold fX9_codeHere at hf
  refine gMT.of hl9 (by decide +kernel) ((Nat.le_of_ble_eq_true rfl)) ?_
  intro p e s m below meth c hM hH ls hl
  have hM : gMC w p l s m ([.ref (w.1 + a0)] : List Value).toArray meth c cX9_codeHere 2 RX9 (some .int) := hM
  have hl : lv_has ls 2 [(0, .ref (w.1 + a0))] := hl
  refine lv_iconst (v := gi (0)) hM.fx.1 hM.fx.2.1 dX9_codeHere_0 rfl ?_
  refine lv_istore_n (lv' := [(1, .int (gi 0)), (0, .ref (w.1 + a0))]) hM.fx.1 hM.fx.2.1 dX9_codeHere_1 rfl hl (by decide) rfl (fun ls hl => ?_)
  exact wX9_codeHere_2 hLC hM  gF _ _ _ _ hg0 (gcR (k := 0) (by decide)) hf _ _ _ hH (lv_sub hl [1, 0] rfl)
def fX9_isOfSlot (g : Nat → Nat) (x0 : Int) : Option Int :=
  (fX9_isIn g x0 8 10).bind fun x_2 => some x_2
set_option maxHeartbeats 4000000 in
set_option maxRecDepth 100000 in
theorem mX9_isOfSlot {w : gW} {n : Nat} {Rm : Nat → Nat → Nat} {g : Nat → Nat} (hLC : gLC g n Rm) {l : Launch} (hl9 : l.stackTraces = false) {x0 : Int} {M : gMem} {r : Int} (hr0 : gRI x0) (hf : fX9_isOfSlot g x0 = some r) : gMT w n Rm l yX9_isOfSlot cX9_isOfSlot 1 (some .boolean) 2 82 0 0 [.int (gi x0)] M (.inr (some (.int (gi r)))) M (r = 0 ∨ r = 1) := by
  unfold fX9_isOfSlot at hf
  refine gMT.of hl9 (by decide +kernel) ((Nat.le_of_ble_eq_true rfl)) ?_
  intro p e s m below meth c hM hH ls hl
  have hM : gMC w p l s m ([.int (gi x0)] : List Value).toArray meth c cX9_isOfSlot 1 RX9 (some .boolean) := hM
  have hl : lv_has ls 1 [(0, .int (gi x0))] := hl
  refine lv_iload_n hM.fx.1 hM.fx.2.1 dX9_isOfSlot_0 rfl (lv_at hl 0 rfl) ?_
  refine lv_bipush (v := gi (8)) hM.fx.1 hM.fx.2.1 dX9_isOfSlot_1 (by decide) ?_
  refine lv_bipush (v := gi (10)) hM.fx.1 hM.fx.2.1 dX9_isOfSlot_3 (by decide) ?_
  obtain ⟨x_2, ex_2, hf⟩ := gbd hf
  refine r_go1 hH rfl (r_runS (As := [.int (gi x0), .int (gi 8), .int (gi 10)]) hM hH cs_X9_56 (mX9_isIn hLC hM.ns hr0 (gcR (k := 8) (by decide)) (gcR (k := 10) (by decide)) ex_2) rfl hl.1 rfl (Nat.le_of_ble_eq_true rfl) ⟨(Nat.le_of_ble_eq_true rfl), (Nat.le_of_ble_eq_true rfl)⟩ ⟨(Nat.le_of_ble_eq_true rfl), (Nat.le_of_ble_eq_true rfl)⟩ dX9_isOfSlot_5) (fun hp_1 H locs hH => ?_)
  obtain rfl := Option.some.inj hf
  exact r_zret hM hH hp_1 hp_1 ⟨(Nat.le_of_ble_eq_true rfl), (Nat.le_of_ble_eq_true rfl)⟩ dX9_isOfSlot_8
def fX9_sets (g : Nat → Nat) (a0 : Nat) (x1 : Int) (x2 : Int) (x3 : Int) (M : gMem) : Option gMem :=
  if (0 : Int) ≤ gwi (gwi (6 + gwi (86 * x1)) + x2) ∧ (gwi (gwi (6 + gwi (86 * x1)) + x2) : Int) < 1190 then gst (gup M (a0 + 1) (gwi (gwi (6 + gwi (86 * x1)) + x2)).toNat x3) fun M_2 => some M_2 else none
set_option maxHeartbeats 4000000 in
set_option maxRecDepth 100000 in
theorem mX9_sets {w : gW} {n : Nat} {Rm : Nat → Nat → Nat} {g : Nat → Nat} (hLC : gLC g n Rm) {l : Launch} (hl9 : l.stackTraces = false) {a0 : Nat} {x1 : Int} {x2 : Int} {x3 : Int} {M : gMem} {r : gMem} (hg0 : g a0 = 9) (hr1 : gRI x1) (hr2 : gRI x2) (hr3 : gRI x3) (hf : fX9_sets g a0 x1 x2 x3 M = some r) : gMT w n Rm l yX9_sets cX9_sets 4 none 1 60 0 0 [.ref (w.1 + a0), .int (gi x1), .int (gi x2), .int (gi x3)] M (.inr none) r True := by
  unfold fX9_sets at hf
  refine gMT.of hl9 (by decide +kernel) ((Nat.le_of_ble_eq_true rfl)) ?_
  intro p e s m below meth c hM hH ls hl
  have hM : gMC w p l s m ([.ref (w.1 + a0), .int (gi x1), .int (gi x2), .int (gi x3)] : List Value).toArray meth c cX9_sets 4 RX9 none := hM
  have hl : lv_has ls 4 [(0, .ref (w.1 + a0)), (1, .int (gi x1)), (2, .int (gi x2)), (3, .int (gi x3))] := hl
  refine lv_aload_n hM.fx.1 hM.fx.2.1 dX9_sets_0 rfl (lv_at hl 0 rfl) ?_
  refine r_getR hM.fx hM.kf hH hLC fl_X9_7 hg0 gch_9_0 dX9_sets_1 ?_
  refine lv_bipush (v := gi (6)) hM.fx.1 hM.fx.2.1 dX9_sets_4 (by decide) ?_
  refine lv_bipush (v := gi (86)) hM.fx.1 hM.fx.2.1 dX9_sets_6 (by decide) ?_
  refine lv_iload_n hM.fx.1 hM.fx.2.1 dX9_sets_8 rfl (lv_at hl 1 rfl) ?_
  refine r_imul hM.fx dX9_sets_9 ?_
  refine r_iadd hM.fx dX9_sets_10 ?_
  refine lv_iload_n hM.fx.1 hM.fx.2.1 dX9_sets_11 rfl (lv_at hl 2 rfl) ?_
  refine r_iadd hM.fx dX9_sets_12 ?_
  refine lv_iload_n hM.fx.1 hM.fx.2.1 dX9_sets_13 rfl (lv_at hl 3 rfl) ?_
  obtain ⟨g_1, hf⟩ := gif hf
  refine r_iast hM.fx hM.kf hH (hLC.in (hLC.ch hg0 (by decide) gch_9_0) (by decide)) (⟨by decide, by decide⟩ : gAr 19056 0) (gwi_r _) g_1 hr3 dX9_sets_14 (fun H locs hH => ?_)
  obtain ⟨M_2, eM_2, hf⟩ := gst_s hf
  rw [← eM_2] at hH
  obtain rfl := Option.some.inj hf
  exact r_vret hM hH trivial ⟨(Nat.le_of_ble_eq_true rfl), (Nat.le_of_ble_eq_true rfl)⟩ dX9_sets_15
def fX9_readsCommand_81 (g : Nat → Nat)  (a0 : Nat) (x1 : Int) (x2 : Int) (x3 : Int) (xs0 : Int) (M : gMem) : Option gMem :=
  if M a0 14 = 0 then ((fX9_sets g a0 x1 (gwi (18 + x3)) x2 M).bind fun M_4 => (fX9_sets g a0 x1 (gwi (42 + x3)) xs0 M_4).bind fun M_6 => (fX9_sets g a0 x1 3 (gwi (x3 + 1)) M_6).bind fun M_8 => some M_8) else (some M)
set_option maxHeartbeats 4000000 in
set_option maxRecDepth 100000 in
theorem wX9_readsCommand_81 {w : gW} {n : Nat} {Rm : Nat → Nat → Nat} {g : Nat → Nat} (hLC : gLC g n Rm) {p : Program} {l : Launch} {e : Env} {s : State} {m : MethodId} {args : Array Value} {below : List Frame} {meth : Method} {c : Code} (hM : gMC w p l s m args meth c cX9_readsCommand 5 RX9 none)  : ∀ (a0 : Nat) (x1 : Int) (x2 : Int) (x3 : Int) (xs0 : Int) (M : gMem) (r : gMem) (hg0 : g a0 = 9) (hr1 : gRI x1) (hr2 : gRI x2) (hr3 : gRI x3) (hrs0 : gRI xs0) (hf : fX9_readsCommand_81 g a0 x1 x2 x3 xs0 M = some r) (H : Heap) (locs : List Loc) (ls : Array Slot) (hH : gH w n Rm M s H locs) (hl : lv_has ls 5 [(0, .ref (w.1 + a0)), (1, .int (gi x1)), (2, .int (gi x2)), (3, .int (gi x3))]), W p l e { frames := 6, cells := 0, slots := 0, locals := 168 } s m args below meth c H locs 0 0 (gQ w n Rm below args s 0 0 (.inr none) r True) (F0 m 81 ls [.int (gi xs0)]) := by
  intro a0 x1 x2 x3 xs0 M r hg0 hr1 hr2 hr3 hrs0 hf H locs ls hH hl
  unfold fX9_readsCommand_81 at hf
  refine lv_istore (lv' := [(4, .int (gi xs0)), (0, .ref (w.1 + a0)), (1, .int (gi x1)), (2, .int (gi x2)), (3, .int (gi x3))]) hM.fx.1 hM.fx.2.1 dX9_readsCommand_81 hl (by decide) rfl (fun ls hl => ?_)
  refine lv_aload_n hM.fx.1 hM.fx.2.1 dX9_readsCommand_83 rfl (lv_at hl 1 rfl) ?_
  refine r_getI hM.fx hM.kf hH fl_X9_101 (hLC.in hg0 (by decide)) dX9_readsCommand_84 ?_
  have hr_1 := hH.2.2.i (hLC.in hg0 (by decide)).2.2 (by decide : glg 9 14 = false)
  refine r_if_eq (tgt := 91) hM.fx hr_1 dX9_readsCommand_87 (by decide) (fun h_2 => ?_) (fun h_2 => ?_)
  · have hf := gpos h_2 hf
    refine lv_aload_n hM.fx.1 hM.fx.2.1 dX9_readsCommand_91 rfl (lv_at hl 1 rfl) ?_
    refine lv_iload_n hM.fx.1 hM.fx.2.1 dX9_readsCommand_92 rfl (lv_at hl 2 rfl) ?_
    refine lv_bipush (v := gi (18)) hM.fx.1 hM.fx.2.1 dX9_readsCommand_93 (by decide) ?_
    refine lv_iload_n hM.fx.1 hM.fx.2.1 dX9_readsCommand_95 rfl (lv_at hl 4 rfl) ?_
    refine r_iadd hM.fx dX9_readsCommand_96 ?_
    refine lv_iload_n hM.fx.1 hM.fx.2.1 dX9_readsCommand_97 rfl (lv_at hl 3 rfl) ?_
    obtain ⟨M_4, eM_4, hf⟩ := gbd hf
    refine r_go0 hH rfl (r_runV (As := [.int (gi x1), .int (gi (gwi (18 + x3))), .int (gi x2)]) hM hH cv_X9_42 (mX9_sets hLC hM.ns hg0 hr1 (gwi_r _) hr2 eM_4) (hLC.in hg0 (by decide)) (by decide) rfl rfl rfl hl.1 rfl (Nat.le_of_ble_eq_true rfl) ⟨(Nat.le_of_ble_eq_true rfl), (Nat.le_of_ble_eq_true rfl)⟩ ⟨(Nat.le_of_ble_eq_true rfl), (Nat.le_of_ble_eq_true rfl)⟩ dX9_readsCommand_98) (fun hp_3 H locs hH => ?_)
    refine lv_aload_n hM.fx.1 hM.fx.2.1 dX9_readsCommand_101 rfl (lv_at hl 1 rfl) ?_
    refine lv_iload_n hM.fx.1 hM.fx.2.1 dX9_readsCommand_102 rfl (lv_at hl 2 rfl) ?_
    refine lv_bipush (v := gi (42)) hM.fx.1 hM.fx.2.1 dX9_readsCommand_103 (by decide) ?_
    refine lv_iload_n hM.fx.1 hM.fx.2.1 dX9_readsCommand_105 rfl (lv_at hl 4 rfl) ?_
    refine r_iadd hM.fx dX9_readsCommand_106 ?_
    refine lv_iload hM.fx.1 hM.fx.2.1 dX9_readsCommand_107 (lv_at hl 0 rfl) ?_
    obtain ⟨M_6, eM_6, hf⟩ := gbd hf
    refine r_go0 hH rfl (r_runV (As := [.int (gi x1), .int (gi (gwi (42 + x3))), .int (gi xs0)]) hM hH cv_X9_42 (mX9_sets hLC hM.ns hg0 hr1 (gwi_r _) hrs0 eM_6) (hLC.in hg0 (by decide)) (by decide) rfl rfl rfl hl.1 rfl (Nat.le_of_ble_eq_true rfl) ⟨(Nat.le_of_ble_eq_true rfl), (Nat.le_of_ble_eq_true rfl)⟩ ⟨(Nat.le_of_ble_eq_true rfl), (Nat.le_of_ble_eq_true rfl)⟩ dX9_readsCommand_109) (fun hp_5 H locs hH => ?_)
    refine lv_aload_n hM.fx.1 hM.fx.2.1 dX9_readsCommand_112 rfl (lv_at hl 1 rfl) ?_
    refine lv_iload_n hM.fx.1 hM.fx.2.1 dX9_readsCommand_113 rfl (lv_at hl 2 rfl) ?_
    refine lv_iconst (v := gi (3)) hM.fx.1 hM.fx.2.1 dX9_readsCommand_114 rfl ?_
    refine lv_iload_n hM.fx.1 hM.fx.2.1 dX9_readsCommand_115 rfl (lv_at hl 4 rfl) ?_
    refine lv_iconst (v := gi (1)) hM.fx.1 hM.fx.2.1 dX9_readsCommand_116 rfl ?_
    refine r_iadd hM.fx dX9_readsCommand_117 ?_
    obtain ⟨M_8, eM_8, hf⟩ := gbd hf
    refine r_go0 hH rfl (r_runV (As := [.int (gi x1), .int (gi 3), .int (gi (gwi (x3 + 1)))]) hM hH cv_X9_42 (mX9_sets hLC hM.ns hg0 hr1 (gcR (k := 3) (by decide)) (gwi_r _) eM_8) (hLC.in hg0 (by decide)) (by decide) rfl rfl rfl hl.1 rfl (Nat.le_of_ble_eq_true rfl) ⟨(Nat.le_of_ble_eq_true rfl), (Nat.le_of_ble_eq_true rfl)⟩ ⟨(Nat.le_of_ble_eq_true rfl), (Nat.le_of_ble_eq_true rfl)⟩ dX9_readsCommand_118) (fun hp_7 H locs hH => ?_)
    obtain rfl := Option.some.inj hf
    exact r_vret hM hH trivial ⟨(Nat.le_of_ble_eq_true rfl), (Nat.le_of_ble_eq_true rfl)⟩ dX9_readsCommand_121
  · have hf := gneg' h_2 hf
    obtain rfl := Option.some.inj hf
    exact r_vret hM hH trivial ⟨(Nat.le_of_ble_eq_true rfl), (Nat.le_of_ble_eq_true rfl)⟩ dX9_readsCommand_90
def fX9_readsCommand_70 (g : Nat → Nat)  (a0 : Nat) (x1 : Int) (x2 : Int) (x3 : Int) (M : gMem) : Option gMem :=
  (fX9_takes g a0 0 24 M).bind fun q_2 => fX9_readsCommand_81 g a0 x1 x2 x3 q_2.1 q_2.2
set_option maxHeartbeats 4000000 in
set_option maxRecDepth 100000 in
theorem wX9_readsCommand_70 {w : gW} {n : Nat} {Rm : Nat → Nat → Nat} {g : Nat → Nat} (hLC : gLC g n Rm) {p : Program} {l : Launch} {e : Env} {s : State} {m : MethodId} {args : Array Value} {below : List Frame} {meth : Method} {c : Code} (hM : gMC w p l s m args meth c cX9_readsCommand 5 RX9 none)  : ∀ (a0 : Nat) (x1 : Int) (x2 : Int) (x3 : Int) (M : gMem) (r : gMem) (hg0 : g a0 = 9) (hr1 : gRI x1) (hr2 : gRI x2) (hr3 : gRI x3) (hf : fX9_readsCommand_70 g a0 x1 x2 x3 M = some r) (H : Heap) (locs : List Loc) (ls : Array Slot) (hH : gH w n Rm M s H locs) (hl : lv_has ls 5 [(0, .ref (w.1 + a0)), (1, .int (gi x1)), (2, .int (gi x2)), (3, .int (gi x3))]), W p l e { frames := 6, cells := 0, slots := 0, locals := 168 } s m args below meth c H locs 0 0 (gQ w n Rm below args s 0 0 (.inr none) r True) (F0 m 70 ls []) := by
  intro a0 x1 x2 x3 M r hg0 hr1 hr2 hr3 hf H locs ls hH hl
  unfold fX9_readsCommand_70 at hf
  refine lv_aload_n hM.fx.1 hM.fx.2.1 dX9_readsCommand_70 rfl (lv_at hl 0 rfl) ?_
  refine lv_iconst (v := gi (0)) hM.fx.1 hM.fx.2.1 dX9_readsCommand_71 rfl ?_
  refine lv_bipush (v := gi (24)) hM.fx.1 hM.fx.2.1 dX9_readsCommand_72 (by decide) ?_
  obtain ⟨q_2, eq_2, hf⟩ := gbd hf
  refine r_go1 hH rfl (r_runV (As := [.int (gi 0), .int (gi 24)]) hM hH cv_X9_132 (mX9_takes hLC hM.ns hg0 (gcR (k := 0) (by decide)) (gcR (k := 24) (by decide)) eq_2) (hLC.in hg0 (by decide)) (by decide) rfl rfl rfl hl.1 rfl (Nat.le_of_ble_eq_true rfl) ⟨(Nat.le_of_ble_eq_true rfl), (Nat.le_of_ble_eq_true rfl)⟩ ⟨(Nat.le_of_ble_eq_true rfl), (Nat.le_of_ble_eq_true rfl)⟩ dX9_readsCommand_74) (fun hp_1 H locs hH => ?_)
  refine lv_goto (tgt := 81) hM.fx.1 hM.fx.2.1 dX9_readsCommand_77 (by decide) ?_
  exact wX9_readsCommand_81 hLC hM   _ _ _ _ _ _ _ hg0 hr1 hr2 hr3 hp_1 hf _ _ _ hH hl
def fX9_readsCommand_19 (g : Nat → Nat)  (a0 : Nat) (x1 : Int) (x2 : Int) (x3 : Int) (M : gMem) : Option gMem :=
  (fX9_must g a0 1 M).bind fun M_2 => if x2 = 0 then ((fX9_takesValue g a0 M_2).bind fun q_14 => fX9_readsCommand_81 g a0 x1 x2 x3 q_14.1 q_14.2) else ((fX9_isOfSlot g x2).bind fun x_5 => if x_5 = 0 then (if x2 = 11 then (fX9_readsCommand_70 g a0 x1 x2 x3 M_2) else (if x2 = 12 then (fX9_readsCommand_70 g a0 x1 x2 x3 M_2) else (fX9_readsCommand_81 g a0 x1 x2 x3 0 M_2))) else (if (0 : Int) ≤ 0 ∧ (0 : Int) < 1190 then (fX9_takes g a0 0 (gwi (M_2 (a0 + 1) (0 : Int).toNat - 1)) M_2).bind fun q_12 => fX9_readsCommand_81 g a0 x1 x2 x3 q_12.1 q_12.2 else none))
set_option maxHeartbeats 4000000 in
set_option maxRecDepth 100000 in
theorem wX9_readsCommand_19 {w : gW} {n : Nat} {Rm : Nat → Nat → Nat} {g : Nat → Nat} (hLC : gLC g n Rm) {p : Program} {l : Launch} {e : Env} {s : State} {m : MethodId} {args : Array Value} {below : List Frame} {meth : Method} {c : Code} (hM : gMC w p l s m args meth c cX9_readsCommand 5 RX9 none)  : ∀ (a0 : Nat) (x1 : Int) (x2 : Int) (x3 : Int) (M : gMem) (r : gMem) (hg0 : g a0 = 9) (hr1 : gRI x1) (hr2 : gRI x2) (hr3 : gRI x3) (hf : fX9_readsCommand_19 g a0 x1 x2 x3 M = some r) (H : Heap) (locs : List Loc) (ls : Array Slot) (hH : gH w n Rm M s H locs) (hl : lv_has ls 5 [(0, .ref (w.1 + a0)), (1, .int (gi x1)), (2, .int (gi x2)), (3, .int (gi x3))]), W p l e { frames := 6, cells := 0, slots := 0, locals := 168 } s m args below meth c H locs 0 0 (gQ w n Rm below args s 0 0 (.inr none) r True) (F0 m 19 ls []) := by
  intro a0 x1 x2 x3 M r hg0 hr1 hr2 hr3 hf H locs ls hH hl
  unfold fX9_readsCommand_19 at hf
  refine lv_aload_n hM.fx.1 hM.fx.2.1 dX9_readsCommand_19 rfl (lv_at hl 0 rfl) ?_
  refine lv_iconst (v := gi (1)) hM.fx.1 hM.fx.2.1 dX9_readsCommand_20 rfl ?_
  obtain ⟨M_2, eM_2, hf⟩ := gbd hf
  refine r_go0 hH rfl (r_runV (As := [.int (gi 1)]) hM hH cv_X9_174 (mX9_must hLC hM.ns hg0 (gcR (k := 1) (by decide)) eM_2) (hLC.in hg0 (by decide)) (by decide) rfl rfl rfl hl.1 rfl (Nat.le_of_ble_eq_true rfl) ⟨(Nat.le_of_ble_eq_true rfl), (Nat.le_of_ble_eq_true rfl)⟩ ⟨(Nat.le_of_ble_eq_true rfl), (Nat.le_of_ble_eq_true rfl)⟩ dX9_readsCommand_21) (fun hp_1 H locs hH => ?_)
  refine lv_iload_n hM.fx.1 hM.fx.2.1 dX9_readsCommand_24 rfl (lv_at hl 2 rfl) ?_
  refine r_if_ne (tgt := 35) hM.fx hr2 dX9_readsCommand_25 (by decide) (fun h_3 => ?_) (fun h_3 => ?_)
  · have hf := gneg' h_3 hf
    refine lv_iload_n hM.fx.1 hM.fx.2.1 dX9_readsCommand_35 rfl (lv_at hl 2 rfl) ?_
    obtain ⟨x_5, ex_5, hf⟩ := gbd hf
    refine r_go1 hH rfl (r_runS (As := [.int (gi x2)]) hM hH cs_X9_181 (mX9_isOfSlot hLC hM.ns hr2 ex_5) rfl hl.1 rfl (Nat.le_of_ble_eq_true rfl) ⟨(Nat.le_of_ble_eq_true rfl), (Nat.le_of_ble_eq_true rfl)⟩ ⟨(Nat.le_of_ble_eq_true rfl), (Nat.le_of_ble_eq_true rfl)⟩ dX9_readsCommand_36) (fun hp_4 H locs hH => ?_)
    refine r_if_eq (tgt := 58) hM.fx (gz_r hp_4) dX9_readsCommand_39 (by decide) (fun h_6 => ?_) (fun h_6 => ?_)
    · have hf := gpos h_6 hf
      refine lv_iload_n hM.fx.1 hM.fx.2.1 dX9_readsCommand_58 rfl (lv_at hl 2 rfl) ?_
      refine lv_bipush (v := gi (11)) hM.fx.1 hM.fx.2.1 dX9_readsCommand_59 (by decide) ?_
      refine r_icmp_eq (tgt := 70) hM.fx hr2 (gcR (k := 11) (by decide)) dX9_readsCommand_61 (by decide) (fun h_7 => ?_) (fun h_7 => ?_)
      · have hf := gpos h_7 hf
        exact wX9_readsCommand_70 hLC hM   _ _ _ _ _ _ hg0 hr1 hr2 hr3 hf _ _ _ hH hl
      · have hf := gneg' h_7 hf
        refine lv_iload_n hM.fx.1 hM.fx.2.1 dX9_readsCommand_64 rfl (lv_at hl 2 rfl) ?_
        refine lv_bipush (v := gi (12)) hM.fx.1 hM.fx.2.1 dX9_readsCommand_65 (by decide) ?_
        refine r_icmp_ne (tgt := 80) hM.fx hr2 (gcR (k := 12) (by decide)) dX9_readsCommand_67 (by decide) (fun h_8 => ?_) (fun h_8 => ?_)
        · have hf := gneg' h_8 hf
          refine lv_iconst (v := gi (0)) hM.fx.1 hM.fx.2.1 dX9_readsCommand_80 rfl ?_
          exact wX9_readsCommand_81 hLC hM   _ _ _ _ _ _ _ hg0 hr1 hr2 hr3 (gcR (k := 0) (by decide)) hf _ _ _ hH hl
        · have hf := gpos h_8 hf
          exact wX9_readsCommand_70 hLC hM   _ _ _ _ _ _ hg0 hr1 hr2 hr3 hf _ _ _ hH hl
    · have hf := gneg' h_6 hf
      refine lv_aload_n hM.fx.1 hM.fx.2.1 dX9_readsCommand_42 rfl (lv_at hl 0 rfl) ?_
      refine lv_iconst (v := gi (0)) hM.fx.1 hM.fx.2.1 dX9_readsCommand_43 rfl ?_
      refine lv_aload_n hM.fx.1 hM.fx.2.1 dX9_readsCommand_44 rfl (lv_at hl 0 rfl) ?_
      refine r_getR hM.fx hM.kf hH hLC fl_X9_7 hg0 gch_9_0 dX9_readsCommand_45 ?_
      refine lv_iconst (v := gi (0)) hM.fx.1 hM.fx.2.1 dX9_readsCommand_48 rfl ?_
      obtain ⟨g_9, hf⟩ := gif hf
      refine r_iald hM.fx hM.kf hH (hLC.in (hLC.ch hg0 (by decide) gch_9_0) (by decide)) (⟨by decide, by decide⟩ : gAr 19056 0) (gcR (k := 0) (by decide)) g_9 dX9_readsCommand_49 ?_
      have hr_10 := hH.2.2.i (k := (0 : Int).toNat) (hLC.in (hLC.ch hg0 (by decide) gch_9_0) (by decide)).2.2 (glg_a (⟨by decide, by decide⟩ : gAr 19056 0))
      refine lv_iconst (v := gi (1)) hM.fx.1 hM.fx.2.1 dX9_readsCommand_50 rfl ?_
      refine r_isub hM.fx dX9_readsCommand_51 ?_
      obtain ⟨q_12, eq_12, hf⟩ := gbd hf
      refine r_go1 hH rfl (r_runV (As := [.int (gi 0), .int (gi (gwi (M_2 (a0 + 1) (0 : Int).toNat - 1)))]) hM hH cv_X9_132 (mX9_takes hLC hM.ns hg0 (gcR (k := 0) (by decide)) (gwi_r _) eq_12) (hLC.in hg0 (by decide)) (by decide) rfl rfl rfl hl.1 rfl (Nat.le_of_ble_eq_true rfl) ⟨(Nat.le_of_ble_eq_true rfl), (Nat.le_of_ble_eq_true rfl)⟩ ⟨(Nat.le_of_ble_eq_true rfl), (Nat.le_of_ble_eq_true rfl)⟩ dX9_readsCommand_52) (fun hp_11 H locs hH => ?_)
      refine lv_goto (tgt := 81) hM.fx.1 hM.fx.2.1 dX9_readsCommand_55 (by decide) ?_
      exact wX9_readsCommand_81 hLC hM   _ _ _ _ _ _ _ hg0 hr1 hr2 hr3 hp_11 hf _ _ _ hH hl
  · have hf := gpos h_3 hf
    refine lv_aload_n hM.fx.1 hM.fx.2.1 dX9_readsCommand_28 rfl (lv_at hl 0 rfl) ?_
    obtain ⟨q_14, eq_14, hf⟩ := gbd hf
    refine r_go1 hH rfl (r_runV (As := []) hM hH cv_X9_178 (mX9_takesValue hLC hM.ns hg0 eq_14) (hLC.in hg0 (by decide)) (by decide) rfl rfl rfl hl.1 rfl (Nat.le_of_ble_eq_true rfl) ⟨(Nat.le_of_ble_eq_true rfl), (Nat.le_of_ble_eq_true rfl)⟩ ⟨(Nat.le_of_ble_eq_true rfl), (Nat.le_of_ble_eq_true rfl)⟩ dX9_readsCommand_29) (fun hp_13 H locs hH => ?_)
    refine lv_goto (tgt := 81) hM.fx.1 hM.fx.2.1 dX9_readsCommand_32 (by decide) ?_
    exact wX9_readsCommand_81 hLC hM   _ _ _ _ _ _ _ hg0 hr1 hr2 hr3 hp_13 hf _ _ _ hH hl
def fX9_readsCommand (g : Nat → Nat) (a0 : Nat) (x1 : Int) (x2 : Int) (M : gMem) : Option gMem :=
  (fX9_of g a0 x1 3 M).bind fun x_2 => if x_2 = 24 then ((fX9_fails g a0 ((-6)) M).bind fun M_5 => fX9_readsCommand_19 g a0 x1 x2 x_2 M_5) else (fX9_readsCommand_19 g a0 x1 x2 x_2 M)
set_option maxHeartbeats 4000000 in
set_option maxRecDepth 100000 in
theorem mX9_readsCommand {w : gW} {n : Nat} {Rm : Nat → Nat → Nat} {g : Nat → Nat} (hLC : gLC g n Rm) {l : Launch} (hl9 : l.stackTraces = false) {a0 : Nat} {x1 : Int} {x2 : Int} {M : gMem} {r : gMem} (hg0 : g a0 = 9) (hr1 : gRI x1) (hr2 : gRI x2) (hf : fX9_readsCommand g a0 x1 x2 M = some r) : gMT w n Rm l yX9_readsCommand cX9_readsCommand 5 none 6 168 0 0 [.ref (w.1 + a0), .int (gi x1), .int (gi x2)] M (.inr none) r True := by
  unfold fX9_readsCommand at hf
  refine gMT.of hl9 (by decide +kernel) ((Nat.le_of_ble_eq_true rfl)) ?_
  intro p e s m below meth c hM hH ls hl
  have hM : gMC w p l s m ([.ref (w.1 + a0), .int (gi x1), .int (gi x2)] : List Value).toArray meth c cX9_readsCommand 5 RX9 none := hM
  have hl : lv_has ls 5 [(0, .ref (w.1 + a0)), (1, .int (gi x1)), (2, .int (gi x2))] := hl
  refine lv_aload_n hM.fx.1 hM.fx.2.1 dX9_readsCommand_0 rfl (lv_at hl 0 rfl) ?_
  refine lv_iload_n hM.fx.1 hM.fx.2.1 dX9_readsCommand_1 rfl (lv_at hl 1 rfl) ?_
  refine lv_iconst (v := gi (3)) hM.fx.1 hM.fx.2.1 dX9_readsCommand_2 rfl ?_
  obtain ⟨x_2, ex_2, hf⟩ := gbd hf
  refine r_go1 hH rfl (r_runV (As := [.int (gi x1), .int (gi 3)]) hM hH cv_X9_135 (mX9_of hLC hM.ns hg0 hr1 (gcR (k := 3) (by decide)) ex_2) (hLC.in hg0 (by decide)) (by decide) rfl rfl rfl hl.1 rfl (Nat.le_of_ble_eq_true rfl) ⟨(Nat.le_of_ble_eq_true rfl), (Nat.le_of_ble_eq_true rfl)⟩ ⟨(Nat.le_of_ble_eq_true rfl), (Nat.le_of_ble_eq_true rfl)⟩ dX9_readsCommand_3) (fun hp_1 H locs hH => ?_)
  refine lv_istore_n (lv' := [(3, .int (gi x_2)), (0, .ref (w.1 + a0)), (1, .int (gi x1)), (2, .int (gi x2))]) hM.fx.1 hM.fx.2.1 dX9_readsCommand_6 rfl hl (by decide) rfl (fun ls hl => ?_)
  refine lv_iload_n hM.fx.1 hM.fx.2.1 dX9_readsCommand_7 rfl (lv_at hl 0 rfl) ?_
  refine lv_bipush (v := gi (24)) hM.fx.1 hM.fx.2.1 dX9_readsCommand_8 (by decide) ?_
  refine r_icmp_ne (tgt := 19) hM.fx hp_1 (gcR (k := 24) (by decide)) dX9_readsCommand_10 (by decide) (fun h_3 => ?_) (fun h_3 => ?_)
  · have hf := gneg' h_3 hf
    exact wX9_readsCommand_19 hLC hM   _ _ _ _ _ _ hg0 hr1 hr2 hp_1 hf _ _ _ hH (lv_sub hl [1, 2, 3, 0] rfl)
  · have hf := gpos h_3 hf
    refine lv_aload_n hM.fx.1 hM.fx.2.1 dX9_readsCommand_13 rfl (lv_at hl 1 rfl) ?_
    refine lv_bipush (v := gi (-6)) hM.fx.1 hM.fx.2.1 dX9_readsCommand_14 (by decide) ?_
    obtain ⟨M_5, eM_5, hf⟩ := gbd hf
    refine r_go0 hH rfl (r_runV (As := [.int (gi ((-6)))]) hM hH cv_X9_117 (mX9_fails hLC hM.ns hg0 (gcR (k := -6) (by decide)) eM_5) (hLC.in hg0 (by decide)) (by decide) rfl rfl rfl hl.1 rfl (Nat.le_of_ble_eq_true rfl) ⟨(Nat.le_of_ble_eq_true rfl), (Nat.le_of_ble_eq_true rfl)⟩ ⟨(Nat.le_of_ble_eq_true rfl), (Nat.le_of_ble_eq_true rfl)⟩ dX9_readsCommand_16) (fun hp_4 H locs hH => ?_)
    exact wX9_readsCommand_19 hLC hM   _ _ _ _ _ _ hg0 hr1 hr2 hp_1 hf _ _ _ hH (lv_sub hl [1, 2, 3, 0] rfl)
def fX9_mayUse (g : Nat → Nat) (a0 : Nat) (x1 : Int) (x2 : Int) (M : gMem) : Option Int :=
  (fX9_of g a0 x1 5 M).bind fun x_2 => if gand (gshr x_2 x2) 1 = 1 then (some 1) else (some 0)
set_option maxHeartbeats 4000000 in
set_option maxRecDepth 100000 in
theorem mX9_mayUse {w : gW} {n : Nat} {Rm : Nat → Nat → Nat} {g : Nat → Nat} (hLC : gLC g n Rm) {l : Launch} (hl9 : l.stackTraces = false) {a0 : Nat} {x1 : Int} {x2 : Int} {M : gMem} {r : Int} (hg0 : g a0 = 9) (hr1 : gRI x1) (hr2 : gRI x2) (hf : fX9_mayUse g a0 x1 x2 M = some r) : gMT w n Rm l yX9_mayUse cX9_mayUse 3 (some .boolean) 2 82 0 0 [.ref (w.1 + a0), .int (gi x1), .int (gi x2)] M (.inr (some (.int (gi r)))) M (r = 0 ∨ r = 1) := by
  unfold fX9_mayUse at hf
  refine gMT.of hl9 (by decide +kernel) ((Nat.le_of_ble_eq_true rfl)) ?_
  intro p e s m below meth c hM hH ls hl
  have hM : gMC w p l s m ([.ref (w.1 + a0), .int (gi x1), .int (gi x2)] : List Value).toArray meth c cX9_mayUse 3 RX9 (some .boolean) := hM
  have hl : lv_has ls 3 [(0, .ref (w.1 + a0)), (1, .int (gi x1)), (2, .int (gi x2))] := hl
  refine lv_aload_n hM.fx.1 hM.fx.2.1 dX9_mayUse_0 rfl (lv_at hl 0 rfl) ?_
  refine lv_iload_n hM.fx.1 hM.fx.2.1 dX9_mayUse_1 rfl (lv_at hl 1 rfl) ?_
  refine lv_iconst (v := gi (5)) hM.fx.1 hM.fx.2.1 dX9_mayUse_2 rfl ?_
  obtain ⟨x_2, ex_2, hf⟩ := gbd hf
  refine r_go1 hH rfl (r_runV (As := [.int (gi x1), .int (gi 5)]) hM hH cv_X9_135 (mX9_of hLC hM.ns hg0 hr1 (gcR (k := 5) (by decide)) ex_2) (hLC.in hg0 (by decide)) (by decide) rfl rfl rfl hl.1 rfl (Nat.le_of_ble_eq_true rfl) ⟨(Nat.le_of_ble_eq_true rfl), (Nat.le_of_ble_eq_true rfl)⟩ ⟨(Nat.le_of_ble_eq_true rfl), (Nat.le_of_ble_eq_true rfl)⟩ dX9_mayUse_3) (fun hp_1 H locs hH => ?_)
  refine lv_iload_n hM.fx.1 hM.fx.2.1 dX9_mayUse_6 rfl (lv_at hl 2 rfl) ?_
  refine r_ishr hM.fx dX9_mayUse_7 ?_
  refine lv_iconst (v := gi (1)) hM.fx.1 hM.fx.2.1 dX9_mayUse_8 rfl ?_
  refine r_iand hM.fx dX9_mayUse_9 ?_
  refine lv_iconst (v := gi (1)) hM.fx.1 hM.fx.2.1 dX9_mayUse_10 rfl ?_
  refine r_icmp_ne (tgt := 18) hM.fx (gi_r _) (gcR (k := 1) (by decide)) dX9_mayUse_11 (by decide) (fun h_3 => ?_) (fun h_3 => ?_)
  · have hf := gneg' h_3 hf
    refine lv_iconst (v := gi (0)) hM.fx.1 hM.fx.2.1 dX9_mayUse_18 rfl ?_
    obtain rfl := Option.some.inj hf
    exact r_zret hM hH (Or.inl rfl) (Or.inl rfl) ⟨(Nat.le_of_ble_eq_true rfl), (Nat.le_of_ble_eq_true rfl)⟩ dX9_mayUse_19
  · have hf := gpos h_3 hf
    refine lv_iconst (v := gi (1)) hM.fx.1 hM.fx.2.1 dX9_mayUse_14 rfl ?_
    refine lv_goto (tgt := 19) hM.fx.1 hM.fx.2.1 dX9_mayUse_15 (by decide) ?_
    obtain rfl := Option.some.inj hf
    exact r_zret hM hH (Or.inr rfl) (Or.inr rfl) ⟨(Nat.le_of_ble_eq_true rfl), (Nat.le_of_ble_eq_true rfl)⟩ dX9_mayUse_19
def fX9_readsSlots_36 (g : Nat → Nat) (k0 : Nat → Int → gMem → Option gMem) (a0 : Nat) (x1 : Int) (x2 : Int) (M : gMem) : Option gMem :=
  if M a0 14 = 0 then ((fX9_of g a0 x1 5 M).bind fun x_4 => (fX9_sets g a0 x1 5 (gor x_4 (gshl 1 x2)) M).bind fun M_6 => (fX9_next g a0 M_6).bind fun M_8 => if M_8 a0 12 = 1 then (k0 a0 x1 M_8) else (some M_8)) else (some M)
set_option maxHeartbeats 4000000 in
set_option maxRecDepth 100000 in
theorem wX9_readsSlots_36 {w : gW} {n : Nat} {Rm : Nat → Nat → Nat} {g : Nat → Nat} (hLC : gLC g n Rm) {p : Program} {l : Launch} {e : Env} {s : State} {m : MethodId} {args : Array Value} {below : List Frame} {meth : Method} {c : Code} (hM : gMC w p l s m args meth c cX9_readsSlots 3 RX9 none) (k0 : Nat → Int → gMem → Option gMem) (hk0 : ∀ (a0 : Nat) (x1 : Int) (M : gMem) (r : gMem) (hg0 : g a0 = 9) (hr1 : gRI x1) (hf : k0 a0 x1 M = some r) (H : Heap) (locs : List Loc) (ls : Array Slot) (hH : gH w n Rm M s H locs) (hl : lv_has ls 3 [(0, .ref (w.1 + a0)), (1, .int (gi x1))]), W p l e { frames := 4, cells := 0, slots := 0, locals := 123 } s m args below meth c H locs 0 0 (gQ w n Rm below args s 0 0 (.inr none) r True) (F0 m 0 ls [])) : ∀ (a0 : Nat) (x1 : Int) (x2 : Int) (M : gMem) (r : gMem) (hg0 : g a0 = 9) (hr1 : gRI x1) (hr2 : gRI x2) (hf : fX9_readsSlots_36 g k0 a0 x1 x2 M = some r) (H : Heap) (locs : List Loc) (ls : Array Slot) (hH : gH w n Rm M s H locs) (hl : lv_has ls 3 [(0, .ref (w.1 + a0)), (1, .int (gi x1)), (2, .int (gi x2))]), W p l e { frames := 4, cells := 0, slots := 0, locals := 123 } s m args below meth c H locs 0 0 (gQ w n Rm below args s 0 0 (.inr none) r True) (F0 m 36 ls []) := by
  intro a0 x1 x2 M r hg0 hr1 hr2 hf H locs ls hH hl
  unfold fX9_readsSlots_36 at hf
  refine lv_aload_n hM.fx.1 hM.fx.2.1 dX9_readsSlots_36 rfl (lv_at hl 0 rfl) ?_
  refine r_getI hM.fx hM.kf hH fl_X9_101 (hLC.in hg0 (by decide)) dX9_readsSlots_37 ?_
  have hr_1 := hH.2.2.i (hLC.in hg0 (by decide)).2.2 (by decide : glg 9 14 = false)
  refine r_if_eq (tgt := 44) hM.fx hr_1 dX9_readsSlots_40 (by decide) (fun h_2 => ?_) (fun h_2 => ?_)
  · have hf := gpos h_2 hf
    refine lv_aload_n hM.fx.1 hM.fx.2.1 dX9_readsSlots_44 rfl (lv_at hl 0 rfl) ?_
    refine lv_iload_n hM.fx.1 hM.fx.2.1 dX9_readsSlots_45 rfl (lv_at hl 1 rfl) ?_
    refine lv_iconst (v := gi (5)) hM.fx.1 hM.fx.2.1 dX9_readsSlots_46 rfl ?_
    refine lv_aload_n hM.fx.1 hM.fx.2.1 dX9_readsSlots_47 rfl (lv_at hl 0 rfl) ?_
    refine lv_iload_n hM.fx.1 hM.fx.2.1 dX9_readsSlots_48 rfl (lv_at hl 1 rfl) ?_
    refine lv_iconst (v := gi (5)) hM.fx.1 hM.fx.2.1 dX9_readsSlots_49 rfl ?_
    obtain ⟨x_4, ex_4, hf⟩ := gbd hf
    refine r_go1 hH rfl (r_runV (As := [.int (gi x1), .int (gi 5)]) hM hH cv_X9_135 (mX9_of hLC hM.ns hg0 hr1 (gcR (k := 5) (by decide)) ex_4) (hLC.in hg0 (by decide)) (by decide) rfl rfl rfl hl.1 rfl (Nat.le_of_ble_eq_true rfl) ⟨(Nat.le_of_ble_eq_true rfl), (Nat.le_of_ble_eq_true rfl)⟩ ⟨(Nat.le_of_ble_eq_true rfl), (Nat.le_of_ble_eq_true rfl)⟩ dX9_readsSlots_50) (fun hp_3 H locs hH => ?_)
    refine lv_iconst (v := gi (1)) hM.fx.1 hM.fx.2.1 dX9_readsSlots_53 rfl ?_
    refine lv_iload_n hM.fx.1 hM.fx.2.1 dX9_readsSlots_54 rfl (lv_at hl 2 rfl) ?_
    refine r_ishl hM.fx dX9_readsSlots_55 ?_
    refine r_ior hM.fx dX9_readsSlots_56 ?_
    obtain ⟨M_6, eM_6, hf⟩ := gbd hf
    refine r_go0 hH rfl (r_runV (As := [.int (gi x1), .int (gi 5), .int (gi (gor x_4 (gshl 1 x2)))]) hM hH cv_X9_42 (mX9_sets hLC hM.ns hg0 hr1 (gcR (k := 5) (by decide)) (gi_r _) eM_6) (hLC.in hg0 (by decide)) (by decide) rfl rfl rfl hl.1 rfl (Nat.le_of_ble_eq_true rfl) ⟨(Nat.le_of_ble_eq_true rfl), (Nat.le_of_ble_eq_true rfl)⟩ ⟨(Nat.le_of_ble_eq_true rfl), (Nat.le_of_ble_eq_true rfl)⟩ dX9_readsSlots_57) (fun hp_5 H locs hH => ?_)
    refine lv_aload_n hM.fx.1 hM.fx.2.1 dX9_readsSlots_60 rfl (lv_at hl 0 rfl) ?_
    obtain ⟨M_8, eM_8, hf⟩ := gbd hf
    refine r_go0 hH rfl (r_runV (As := []) hM hH cv_X9_121 (mX9_next hLC hM.ns hg0 eM_8) (hLC.in hg0 (by decide)) (by decide) rfl rfl rfl hl.1 rfl (Nat.le_of_ble_eq_true rfl) ⟨(Nat.le_of_ble_eq_true rfl), (Nat.le_of_ble_eq_true rfl)⟩ ⟨(Nat.le_of_ble_eq_true rfl), (Nat.le_of_ble_eq_true rfl)⟩ dX9_readsSlots_61) (fun hp_7 H locs hH => ?_)
    refine lv_aload_n hM.fx.1 hM.fx.2.1 dX9_readsSlots_64 rfl (lv_at hl 0 rfl) ?_
    refine r_getI hM.fx hM.kf hH fl_X9_84 (hLC.in hg0 (by decide)) dX9_readsSlots_65 ?_
    have hr_9 := hH.2.2.i (hLC.in hg0 (by decide)).2.2 (by decide : glg 9 12 = false)
    refine lv_iconst (v := gi (1)) hM.fx.1 hM.fx.2.1 dX9_readsSlots_68 rfl ?_
    refine r_icmp_eq (tgt := 0) hM.fx hr_9 (gcR (k := 1) (by decide)) dX9_readsSlots_69 (by decide) (fun h_10 => ?_) (fun h_10 => ?_)
    · have hf := gpos h_10 hf
      exact hk0 _ _ _ _ hg0 hr1 hf _ _ _ hH (lv_sub hl [0, 1] rfl)
    · have hf := gneg' h_10 hf
      obtain rfl := Option.some.inj hf
      exact r_vret hM hH trivial ⟨(Nat.le_of_ble_eq_true rfl), (Nat.le_of_ble_eq_true rfl)⟩ dX9_readsSlots_72
  · have hf := gneg' h_2 hf
    obtain rfl := Option.some.inj hf
    exact r_vret hM hH trivial ⟨(Nat.le_of_ble_eq_true rfl), (Nat.le_of_ble_eq_true rfl)⟩ dX9_readsSlots_43
def fX9_readsSlots_0 (g : Nat → Nat)  : Nat → Nat → Int → gMem → Option gMem
  | 0, _, _, _ => none
  | fu + 1, a0, x1, M => if (0 : Int) ≤ 0 ∧ (0 : Int) < 1190 then (fX9_stands g a0 0 (gwi (M (a0 + 1) (0 : Int).toNat - 1)) M).bind fun q_4 => gst q_4.1 fun x_5 => if q_4.2 a0 14 = 0 then ((fX9_mayUse g a0 x1 x_5 q_4.2).bind fun x_9 => if x_9 = 0 then (fX9_readsSlots_36 g (fX9_readsSlots_0 g fu) a0 x1 x_5 q_4.2) else ((fX9_fails g a0 ((-5)) q_4.2).bind fun M_12 => fX9_readsSlots_36 g (fX9_readsSlots_0 g fu) a0 x1 x_5 M_12)) else (fX9_readsSlots_36 g (fX9_readsSlots_0 g fu) a0 x1 x_5 q_4.2) else none
set_option maxHeartbeats 4000000 in
set_option maxRecDepth 100000 in
theorem wX9_readsSlots_0 {w : gW} {n : Nat} {Rm : Nat → Nat → Nat} {g : Nat → Nat} (hLC : gLC g n Rm) {p : Program} {l : Launch} {e : Env} {s : State} {m : MethodId} {args : Array Value} {below : List Frame} {meth : Method} {c : Code} (hM : gMC w p l s m args meth c cX9_readsSlots 3 RX9 none)  : ∀ (fu : Nat), ∀ (a0 : Nat) (x1 : Int) (M : gMem) (r : gMem) (hg0 : g a0 = 9) (hr1 : gRI x1) (hf : fX9_readsSlots_0 g fu a0 x1 M = some r) (H : Heap) (locs : List Loc) (ls : Array Slot) (hH : gH w n Rm M s H locs) (hl : lv_has ls 3 [(0, .ref (w.1 + a0)), (1, .int (gi x1))]), W p l e { frames := 4, cells := 0, slots := 0, locals := 123 } s m args below meth c H locs 0 0 (gQ w n Rm below args s 0 0 (.inr none) r True) (F0 m 0 ls []) := by
  intro fu
  induction fu with
  | zero =>
    intro a0 x1 M r hg0 hr1 hf H locs ls hH hl
    exact absurd hf (by simp [fX9_readsSlots_0])
  | succ fu ih =>
    intro a0 x1 M r hg0 hr1 hf H locs ls hH hl
    unfold fX9_readsSlots_0 at hf
    refine lv_aload_n hM.fx.1 hM.fx.2.1 dX9_readsSlots_0 rfl (lv_at hl 0 rfl) ?_
    refine lv_iconst (v := gi (0)) hM.fx.1 hM.fx.2.1 dX9_readsSlots_1 rfl ?_
    refine lv_aload_n hM.fx.1 hM.fx.2.1 dX9_readsSlots_2 rfl (lv_at hl 0 rfl) ?_
    refine r_getR hM.fx hM.kf hH hLC fl_X9_7 hg0 gch_9_0 dX9_readsSlots_3 ?_
    refine lv_iconst (v := gi (0)) hM.fx.1 hM.fx.2.1 dX9_readsSlots_6 rfl ?_
    obtain ⟨g_1, hf⟩ := gif hf
    refine r_iald hM.fx hM.kf hH (hLC.in (hLC.ch hg0 (by decide) gch_9_0) (by decide)) (⟨by decide, by decide⟩ : gAr 19056 0) (gcR (k := 0) (by decide)) g_1 dX9_readsSlots_7 ?_
    have hr_2 := hH.2.2.i (k := (0 : Int).toNat) (hLC.in (hLC.ch hg0 (by decide) gch_9_0) (by decide)).2.2 (glg_a (⟨by decide, by decide⟩ : gAr 19056 0))
    refine lv_iconst (v := gi (1)) hM.fx.1 hM.fx.2.1 dX9_readsSlots_8 rfl ?_
    refine r_isub hM.fx dX9_readsSlots_9 ?_
    obtain ⟨q_4, eq_4, hf⟩ := gbd hf
    refine r_go1 hH rfl (r_runV (As := [.int (gi 0), .int (gi (gwi (M (a0 + 1) (0 : Int).toNat - 1)))]) hM hH cv_X9_124 (mX9_stands hLC hM.ns hg0 (gcR (k := 0) (by decide)) (gwi_r _) eq_4) (hLC.in hg0 (by decide)) (by decide) rfl rfl rfl hl.1 rfl (Nat.le_of_ble_eq_true rfl) ⟨(Nat.le_of_ble_eq_true rfl), (Nat.le_of_ble_eq_true rfl)⟩ ⟨(Nat.le_of_ble_eq_true rfl), (Nat.le_of_ble_eq_true rfl)⟩ dX9_readsSlots_10) (fun hp_3 H locs hH => ?_)
    obtain ⟨x_5, ex_5, hf⟩ := gst_s hf
    refine W.eq (g2 := F0 m _ ls (.int (gi x_5) :: _)) (by rw [ex_5]) ?_
    have hx_5 : gRI x_5 := by rw [ex_5]; exact hp_3
    refine lv_istore_n (lv' := [(2, .int (gi x_5)), (0, .ref (w.1 + a0)), (1, .int (gi x1))]) hM.fx.1 hM.fx.2.1 dX9_readsSlots_13 rfl hl (by decide) rfl (fun ls hl => ?_)
    refine lv_aload_n hM.fx.1 hM.fx.2.1 dX9_readsSlots_14 rfl (lv_at hl 1 rfl) ?_
    refine r_getI hM.fx hM.kf hH fl_X9_101 (hLC.in hg0 (by decide)) dX9_readsSlots_15 ?_
    have hr_6 := hH.2.2.i (hLC.in hg0 (by decide)).2.2 (by decide : glg 9 14 = false)
    refine r_if_ne (tgt := 36) hM.fx hr_6 dX9_readsSlots_18 (by decide) (fun h_7 => ?_) (fun h_7 => ?_)
    · have hf := gneg' h_7 hf
      exact wX9_readsSlots_36 hLC hM (fX9_readsSlots_0 g fu) ih  _ _ _ _ _ hg0 hr1 hx_5 hf _ _ _ hH (lv_sub hl [1, 2, 0] rfl)
    · have hf := gpos h_7 hf
      refine lv_aload_n hM.fx.1 hM.fx.2.1 dX9_readsSlots_21 rfl (lv_at hl 1 rfl) ?_
      refine lv_iload_n hM.fx.1 hM.fx.2.1 dX9_readsSlots_22 rfl (lv_at hl 2 rfl) ?_
      refine lv_iload_n hM.fx.1 hM.fx.2.1 dX9_readsSlots_23 rfl (lv_at hl 0 rfl) ?_
      obtain ⟨x_9, ex_9, hf⟩ := gbd hf
      refine r_go1 hH rfl (r_runV (As := [.int (gi x1), .int (gi x_5)]) hM hH cv_X9_206 (mX9_mayUse hLC hM.ns hg0 hr1 hx_5 ex_9) (hLC.in hg0 (by decide)) (by decide) rfl rfl rfl hl.1 rfl (Nat.le_of_ble_eq_true rfl) ⟨(Nat.le_of_ble_eq_true rfl), (Nat.le_of_ble_eq_true rfl)⟩ ⟨(Nat.le_of_ble_eq_true rfl), (Nat.le_of_ble_eq_true rfl)⟩ dX9_readsSlots_24) (fun hp_8 H locs hH => ?_)
      refine r_if_eq (tgt := 36) hM.fx (gz_r hp_8) dX9_readsSlots_27 (by decide) (fun h_10 => ?_) (fun h_10 => ?_)
      · have hf := gpos h_10 hf
        exact wX9_readsSlots_36 hLC hM (fX9_readsSlots_0 g fu) ih  _ _ _ _ _ hg0 hr1 hx_5 hf _ _ _ hH (lv_sub hl [1, 2, 0] rfl)
      · have hf := gneg' h_10 hf
        refine lv_aload_n hM.fx.1 hM.fx.2.1 dX9_readsSlots_30 rfl (lv_at hl 1 rfl) ?_
        refine lv_bipush (v := gi (-5)) hM.fx.1 hM.fx.2.1 dX9_readsSlots_31 (by decide) ?_
        obtain ⟨M_12, eM_12, hf⟩ := gbd hf
        refine r_go0 hH rfl (r_runV (As := [.int (gi ((-5)))]) hM hH cv_X9_117 (mX9_fails hLC hM.ns hg0 (gcR (k := -5) (by decide)) eM_12) (hLC.in hg0 (by decide)) (by decide) rfl rfl rfl hl.1 rfl (Nat.le_of_ble_eq_true rfl) ⟨(Nat.le_of_ble_eq_true rfl), (Nat.le_of_ble_eq_true rfl)⟩ ⟨(Nat.le_of_ble_eq_true rfl), (Nat.le_of_ble_eq_true rfl)⟩ dX9_readsSlots_33) (fun hp_11 H locs hH => ?_)
        exact wX9_readsSlots_36 hLC hM (fX9_readsSlots_0 g fu) ih  _ _ _ _ _ hg0 hr1 hx_5 hf _ _ _ hH (lv_sub hl [1, 2, 0] rfl)
def fX9_readsSlots (g : Nat → Nat) (a0 : Nat) (x1 : Int) (M : gMem) : Option gMem :=
  fX9_readsSlots_0 g gF a0 x1 M
set_option maxHeartbeats 4000000 in
set_option maxRecDepth 100000 in
theorem mX9_readsSlots {w : gW} {n : Nat} {Rm : Nat → Nat → Nat} {g : Nat → Nat} (hLC : gLC g n Rm) {l : Launch} (hl9 : l.stackTraces = false) {a0 : Nat} {x1 : Int} {M : gMem} {r : gMem} (hg0 : g a0 = 9) (hr1 : gRI x1) (hf : fX9_readsSlots g a0 x1 M = some r) : gMT w n Rm l yX9_readsSlots cX9_readsSlots 3 none 4 123 0 0 [.ref (w.1 + a0), .int (gi x1)] M (.inr none) r True := by
  unfold fX9_readsSlots at hf
  refine gMT.of hl9 (by decide +kernel) ((Nat.le_of_ble_eq_true rfl)) ?_
  intro p e s m below meth c hM hH ls hl
  have hM : gMC w p l s m ([.ref (w.1 + a0), .int (gi x1)] : List Value).toArray meth c cX9_readsSlots 3 RX9 none := hM
  have hl : lv_has ls 3 [(0, .ref (w.1 + a0)), (1, .int (gi x1))] := hl
  exact wX9_readsSlots_0 hLC hM  gF _ _ _ _ hg0 hr1 hf _ _ _ hH hl
