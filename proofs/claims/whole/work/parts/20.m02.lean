def fX5_takeNumber_37 (g : Nat → Nat)  (a0 : Nat) (M : gMem) : Option (Int × gMem) :=
  (fX5_fails g a0 ((-3)) (M a0 6) M).bind fun q_3 => some (q_3.1, q_3.2)
set_option maxHeartbeats 4000000 in
set_option maxRecDepth 100000 in
theorem wX5_takeNumber_37 {w : gW} {n : Nat} {Rm : Nat → Nat → Nat} {g : Nat → Nat} (hLC : gLC g n Rm) {p : Program} {l : Launch} {e : Env} {s : State} {m : MethodId} {args : Array Value} {below : List Frame} {meth : Method} {c : Code} (hM : gMC w p l s m args meth c cX5_takeNumber 3 RX5 (some .boolean))  : ∀ (a0 : Nat) (M : gMem) (r : (Int × gMem)) (hg0 : g a0 = 6) (hf : fX5_takeNumber_37 g a0 M = some r) (H : Heap) (locs : List Loc) (ls : Array Slot) (hH : gH w n Rm M s H locs) (hl : lv_has ls 3 [(0, .ref (w.1 + a0))]), W p l e { frames := 2, cells := 0, slots := 0, locals := 82 } s m args below meth c H locs 0 0 (gQ w n Rm below args s 0 0 (.inr (some (.int (gi r.1)))) r.2 (r.1 = 0 ∨ r.1 = 1)) (F0 m 37 ls []) := by
  intro a0 M r hg0 hf H locs ls hH hl
  unfold fX5_takeNumber_37 at hf
  refine lv_aload_n hM.fx.1 hM.fx.2.1 dX5_takeNumber_37 rfl (lv_at hl 0 rfl) ?_
  refine lv_bipush (v := gi (-3)) hM.fx.1 hM.fx.2.1 dX5_takeNumber_38 (by decide) ?_
  refine lv_aload_n hM.fx.1 hM.fx.2.1 dX5_takeNumber_40 rfl (lv_at hl 0 rfl) ?_
  refine r_getI hM.fx hM.kf hH fl_X5_68 (hLC.in hg0 (by decide)) dX5_takeNumber_41 ?_
  have hr_1 := hH.2.2.i (hLC.in hg0 (by decide)).2.2 (by decide : glg 6 6 = false)
  obtain ⟨q_3, eq_3, hf⟩ := gbd hf
  refine r_go1 hH rfl (r_runV (As := [.int (gi ((-3))), .int (gi (M a0 6))]) hM hH cv_X5_71 (mX5_fails hLC hM.ns hg0 (gcR (k := -3) (by decide)) hr_1 eq_3) (hLC.in hg0 (by decide)) (by decide) rfl rfl rfl hl.1 rfl (Nat.le_of_ble_eq_true rfl) ⟨(Nat.le_of_ble_eq_true rfl), (Nat.le_of_ble_eq_true rfl)⟩ ⟨(Nat.le_of_ble_eq_true rfl), (Nat.le_of_ble_eq_true rfl)⟩ dX5_takeNumber_44) (fun hp_2 H locs hH => ?_)
  obtain rfl := Option.some.inj hf
  exact r_zret hM hH hp_2 hp_2 ⟨(Nat.le_of_ble_eq_true rfl), (Nat.le_of_ble_eq_true rfl)⟩ dX5_takeNumber_47
def fX5_takeNumber (g : Nat → Nat) (a0 : Nat) (x1 : Int) (x2 : Int) (M : gMem) : Option (Int × gMem) :=
  if M a0 7 = 257 then (if M a0 9 < x1 then (fX5_takeNumber_37 g a0 M) else (if M a0 9 ≤ x2 then (gst (gup M a0 10 (M a0 9)) fun M_8 => (fX5_next g a0 M_8).bind fun M_10 => some (1, M_10)) else (fX5_takeNumber_37 g a0 M))) else ((fX5_fails g a0 ((-2)) (M a0 6) M).bind fun q_13 => some (q_13.1, q_13.2))
set_option maxHeartbeats 4000000 in
set_option maxRecDepth 100000 in
theorem mX5_takeNumber {w : gW} {n : Nat} {Rm : Nat → Nat → Nat} {g : Nat → Nat} (hLC : gLC g n Rm) {l : Launch} (hl9 : l.stackTraces = false) {a0 : Nat} {x1 : Int} {x2 : Int} {M : gMem} {r : (Int × gMem)} (hg0 : g a0 = 6) (hr1 : gRI x1) (hr2 : gRI x2) (hf : fX5_takeNumber g a0 x1 x2 M = some r) : gMT w n Rm l yX5_takeNumber cX5_takeNumber 3 (some .boolean) 2 82 0 0 [.ref (w.1 + a0), .int (gi x1), .int (gi x2)] M (.inr (some (.int (gi r.1)))) r.2 (r.1 = 0 ∨ r.1 = 1) := by
  unfold fX5_takeNumber at hf
  refine gMT.of hl9 (by decide +kernel) ((Nat.le_of_ble_eq_true rfl)) ?_
  intro p e s m below meth c hM hH ls hl
  have hM : gMC w p l s m ([.ref (w.1 + a0), .int (gi x1), .int (gi x2)] : List Value).toArray meth c cX5_takeNumber 3 RX5 (some .boolean) := hM
  have hl : lv_has ls 3 [(0, .ref (w.1 + a0)), (1, .int (gi x1)), (2, .int (gi x2))] := hl
  refine lv_aload_n hM.fx.1 hM.fx.2.1 dX5_takeNumber_0 rfl (lv_at hl 0 rfl) ?_
  refine r_getI hM.fx hM.kf hH fl_X5_65 (hLC.in hg0 (by decide)) dX5_takeNumber_1 ?_
  have hr_1 := hH.2.2.i (hLC.in hg0 (by decide)).2.2 (by decide : glg 6 7 = false)
  refine lv_sipush (v := gi (257)) hM.fx.1 hM.fx.2.1 dX5_takeNumber_4 (by decide) ?_
  refine r_icmp_eq (tgt := 21) hM.fx hr_1 (gcR (k := 257) (by decide)) dX5_takeNumber_7 (by decide) (fun h_2 => ?_) (fun h_2 => ?_)
  · have hf := gpos h_2 hf
    refine lv_aload_n hM.fx.1 hM.fx.2.1 dX5_takeNumber_21 rfl (lv_at hl 0 rfl) ?_
    refine r_getI hM.fx hM.kf hH fl_X5_195 (hLC.in hg0 (by decide)) dX5_takeNumber_22 ?_
    have hr_3 := hH.2.2.i (hLC.in hg0 (by decide)).2.2 (by decide : glg 6 9 = false)
    refine lv_iload_n hM.fx.1 hM.fx.2.1 dX5_takeNumber_25 rfl (lv_at hl 1 rfl) ?_
    refine r_icmp_lt (tgt := 37) hM.fx hr_3 hr1 dX5_takeNumber_26 (by decide) (fun h_4 => ?_) (fun h_4 => ?_)
    · have hf := gpos h_4 hf
      exact wX5_takeNumber_37 hLC hM   _ _ _ hg0 hf _ _ _ hH (lv_sub hl [0] rfl)
    · have hf := gneg' h_4 hf
      refine lv_aload_n hM.fx.1 hM.fx.2.1 dX5_takeNumber_29 rfl (lv_at hl 0 rfl) ?_
      refine r_getI hM.fx hM.kf hH fl_X5_195 (hLC.in hg0 (by decide)) dX5_takeNumber_30 ?_
      have hr_5 := hH.2.2.i (hLC.in hg0 (by decide)).2.2 (by decide : glg 6 9 = false)
      refine lv_iload_n hM.fx.1 hM.fx.2.1 dX5_takeNumber_33 rfl (lv_at hl 2 rfl) ?_
      refine r_icmp_le (tgt := 48) hM.fx hr_5 hr2 dX5_takeNumber_34 (by decide) (fun h_6 => ?_) (fun h_6 => ?_)
      · have hf := gpos h_6 hf
        refine lv_aload_n hM.fx.1 hM.fx.2.1 dX5_takeNumber_48 rfl (lv_at hl 0 rfl) ?_
        refine lv_aload_n hM.fx.1 hM.fx.2.1 dX5_takeNumber_49 rfl (lv_at hl 0 rfl) ?_
        refine r_getI hM.fx hM.kf hH fl_X5_195 (hLC.in hg0 (by decide)) dX5_takeNumber_50 ?_
        have hr_7 := hH.2.2.i (hLC.in hg0 (by decide)).2.2 (by decide : glg 6 9 = false)
        refine r_putI hM.fx hM.kf hH fp_X5_47 (hLC.in hg0 (by decide)) hr_7 dX5_takeNumber_53 (fun H locs hH => ?_)
        obtain ⟨M_8, eM_8, hf⟩ := gst_s hf
        rw [← eM_8] at hH
        refine lv_aload_n hM.fx.1 hM.fx.2.1 dX5_takeNumber_56 rfl (lv_at hl 0 rfl) ?_
        obtain ⟨M_10, eM_10, hf⟩ := gbd hf
        refine r_go0 hH rfl (r_runV (As := []) hM hH cv_X5_35 (mX5_next hLC hM.ns hg0 eM_10) (hLC.in hg0 (by decide)) (by decide) rfl rfl rfl hl.1 rfl (Nat.le_of_ble_eq_true rfl) ⟨(Nat.le_of_ble_eq_true rfl), (Nat.le_of_ble_eq_true rfl)⟩ ⟨(Nat.le_of_ble_eq_true rfl), (Nat.le_of_ble_eq_true rfl)⟩ dX5_takeNumber_57) (fun hp_9 H locs hH => ?_)
        refine lv_iconst (v := gi (1)) hM.fx.1 hM.fx.2.1 dX5_takeNumber_60 rfl ?_
        obtain rfl := Option.some.inj hf
        exact r_zret hM hH (Or.inr rfl) (Or.inr rfl) ⟨(Nat.le_of_ble_eq_true rfl), (Nat.le_of_ble_eq_true rfl)⟩ dX5_takeNumber_61
      · have hf := gneg' h_6 hf
        exact wX5_takeNumber_37 hLC hM   _ _ _ hg0 hf _ _ _ hH (lv_sub hl [0] rfl)
  · have hf := gneg' h_2 hf
    refine lv_aload_n hM.fx.1 hM.fx.2.1 dX5_takeNumber_10 rfl (lv_at hl 0 rfl) ?_
    refine lv_bipush (v := gi (-2)) hM.fx.1 hM.fx.2.1 dX5_takeNumber_11 (by decide) ?_
    refine lv_aload_n hM.fx.1 hM.fx.2.1 dX5_takeNumber_13 rfl (lv_at hl 0 rfl) ?_
    refine r_getI hM.fx hM.kf hH fl_X5_68 (hLC.in hg0 (by decide)) dX5_takeNumber_14 ?_
    have hr_11 := hH.2.2.i (hLC.in hg0 (by decide)).2.2 (by decide : glg 6 6 = false)
    obtain ⟨q_13, eq_13, hf⟩ := gbd hf
    refine r_go1 hH rfl (r_runV (As := [.int (gi ((-2))), .int (gi (M a0 6))]) hM hH cv_X5_71 (mX5_fails hLC hM.ns hg0 (gcR (k := -2) (by decide)) hr_11 eq_13) (hLC.in hg0 (by decide)) (by decide) rfl rfl rfl hl.1 rfl (Nat.le_of_ble_eq_true rfl) ⟨(Nat.le_of_ble_eq_true rfl), (Nat.le_of_ble_eq_true rfl)⟩ ⟨(Nat.le_of_ble_eq_true rfl), (Nat.le_of_ble_eq_true rfl)⟩ dX5_takeNumber_17) (fun hp_12 H locs hH => ?_)
    obtain rfl := Option.some.inj hf
    exact r_zret hM hH hp_12 hp_12 ⟨(Nat.le_of_ble_eq_true rfl), (Nat.le_of_ble_eq_true rfl)⟩ dX5_takeNumber_20
def fX5_takeSign (g : Nat → Nat) (a0 : Nat) (x1 : Int) (M : gMem) : Option (Int × gMem) :=
  if M a0 7 = x1 then ((fX5_next g a0 M).bind fun M_4 => some (1, M_4)) else ((fX5_fails g a0 ((-2)) (M a0 6) M).bind fun q_7 => some (q_7.1, q_7.2))
set_option maxHeartbeats 4000000 in
set_option maxRecDepth 100000 in
theorem mX5_takeSign {w : gW} {n : Nat} {Rm : Nat → Nat → Nat} {g : Nat → Nat} (hLC : gLC g n Rm) {l : Launch} (hl9 : l.stackTraces = false) {a0 : Nat} {x1 : Int} {M : gMem} {r : (Int × gMem)} (hg0 : g a0 = 6) (hr1 : gRI x1) (hf : fX5_takeSign g a0 x1 M = some r) : gMT w n Rm l yX5_takeSign cX5_takeSign 2 (some .boolean) 2 82 0 0 [.ref (w.1 + a0), .int (gi x1)] M (.inr (some (.int (gi r.1)))) r.2 (r.1 = 0 ∨ r.1 = 1) := by
  unfold fX5_takeSign at hf
  refine gMT.of hl9 (by decide +kernel) ((Nat.le_of_ble_eq_true rfl)) ?_
  intro p e s m below meth c hM hH ls hl
  have hM : gMC w p l s m ([.ref (w.1 + a0), .int (gi x1)] : List Value).toArray meth c cX5_takeSign 2 RX5 (some .boolean) := hM
  have hl : lv_has ls 2 [(0, .ref (w.1 + a0)), (1, .int (gi x1))] := hl
  refine lv_aload_n hM.fx.1 hM.fx.2.1 dX5_takeSign_0 rfl (lv_at hl 0 rfl) ?_
  refine r_getI hM.fx hM.kf hH fl_X5_65 (hLC.in hg0 (by decide)) dX5_takeSign_1 ?_
  have hr_1 := hH.2.2.i (hLC.in hg0 (by decide)).2.2 (by decide : glg 6 7 = false)
  refine lv_iload_n hM.fx.1 hM.fx.2.1 dX5_takeSign_4 rfl (lv_at hl 1 rfl) ?_
  refine r_icmp_eq (tgt := 19) hM.fx hr_1 hr1 dX5_takeSign_5 (by decide) (fun h_2 => ?_) (fun h_2 => ?_)
  · have hf := gpos h_2 hf
    refine lv_aload_n hM.fx.1 hM.fx.2.1 dX5_takeSign_19 rfl (lv_at hl 0 rfl) ?_
    obtain ⟨M_4, eM_4, hf⟩ := gbd hf
    refine r_go0 hH rfl (r_runV (As := []) hM hH cv_X5_35 (mX5_next hLC hM.ns hg0 eM_4) (hLC.in hg0 (by decide)) (by decide) rfl rfl rfl hl.1 rfl (Nat.le_of_ble_eq_true rfl) ⟨(Nat.le_of_ble_eq_true rfl), (Nat.le_of_ble_eq_true rfl)⟩ ⟨(Nat.le_of_ble_eq_true rfl), (Nat.le_of_ble_eq_true rfl)⟩ dX5_takeSign_20) (fun hp_3 H locs hH => ?_)
    refine lv_iconst (v := gi (1)) hM.fx.1 hM.fx.2.1 dX5_takeSign_23 rfl ?_
    obtain rfl := Option.some.inj hf
    exact r_zret hM hH (Or.inr rfl) (Or.inr rfl) ⟨(Nat.le_of_ble_eq_true rfl), (Nat.le_of_ble_eq_true rfl)⟩ dX5_takeSign_24
  · have hf := gneg' h_2 hf
    refine lv_aload_n hM.fx.1 hM.fx.2.1 dX5_takeSign_8 rfl (lv_at hl 0 rfl) ?_
    refine lv_bipush (v := gi (-2)) hM.fx.1 hM.fx.2.1 dX5_takeSign_9 (by decide) ?_
    refine lv_aload_n hM.fx.1 hM.fx.2.1 dX5_takeSign_11 rfl (lv_at hl 0 rfl) ?_
    refine r_getI hM.fx hM.kf hH fl_X5_68 (hLC.in hg0 (by decide)) dX5_takeSign_12 ?_
    have hr_5 := hH.2.2.i (hLC.in hg0 (by decide)).2.2 (by decide : glg 6 6 = false)
    obtain ⟨q_7, eq_7, hf⟩ := gbd hf
    refine r_go1 hH rfl (r_runV (As := [.int (gi ((-2))), .int (gi (M a0 6))]) hM hH cv_X5_71 (mX5_fails hLC hM.ns hg0 (gcR (k := -2) (by decide)) hr_5 eq_7) (hLC.in hg0 (by decide)) (by decide) rfl rfl rfl hl.1 rfl (Nat.le_of_ble_eq_true rfl) ⟨(Nat.le_of_ble_eq_true rfl), (Nat.le_of_ble_eq_true rfl)⟩ ⟨(Nat.le_of_ble_eq_true rfl), (Nat.le_of_ble_eq_true rfl)⟩ dX5_takeSign_15) (fun hp_6 H locs hH => ?_)
    obtain rfl := Option.some.inj hf
    exact r_zret hM hH hp_6 hp_6 ⟨(Nat.le_of_ble_eq_true rfl), (Nat.le_of_ble_eq_true rfl)⟩ dX5_takeSign_18
def fX5_isName (g : Nat → Nat) (a0 : Nat) (M : gMem) : Option Int :=
  if M a0 7 = 256 then (if glcmp (M a0 8) 0 = 0 then (some 0) else (some 1)) else (some 0)
set_option maxHeartbeats 4000000 in
set_option maxRecDepth 100000 in
theorem mX5_isName {w : gW} {n : Nat} {Rm : Nat → Nat → Nat} {g : Nat → Nat} (hLC : gLC g n Rm) {l : Launch} (hl9 : l.stackTraces = false) {a0 : Nat} {M : gMem} {r : Int} (hg0 : g a0 = 6) (hf : fX5_isName g a0 M = some r) : gMT w n Rm l yX5_isName cX5_isName 1 (some .boolean) 1 60 0 0 [.ref (w.1 + a0)] M (.inr (some (.int (gi r)))) M (r = 0 ∨ r = 1) := by
  unfold fX5_isName at hf
  refine gMT.of hl9 (by decide +kernel) ((Nat.le_of_ble_eq_true rfl)) ?_
  intro p e s m below meth c hM hH ls hl
  have hM : gMC w p l s m ([.ref (w.1 + a0)] : List Value).toArray meth c cX5_isName 1 RX5 (some .boolean) := hM
  have hl : lv_has ls 1 [(0, .ref (w.1 + a0))] := hl
  refine lv_aload_n hM.fx.1 hM.fx.2.1 dX5_isName_0 rfl (lv_at hl 0 rfl) ?_
  refine r_getI hM.fx hM.kf hH fl_X5_65 (hLC.in hg0 (by decide)) dX5_isName_1 ?_
  have hr_1 := hH.2.2.i (hLC.in hg0 (by decide)).2.2 (by decide : glg 6 7 = false)
  refine lv_sipush (v := gi (256)) hM.fx.1 hM.fx.2.1 dX5_isName_4 (by decide) ?_
  refine r_icmp_ne (tgt := 23) hM.fx hr_1 (gcR (k := 256) (by decide)) dX5_isName_7 (by decide) (fun h_2 => ?_) (fun h_2 => ?_)
  · have hf := gneg' h_2 hf
    refine lv_iconst (v := gi (0)) hM.fx.1 hM.fx.2.1 dX5_isName_23 rfl ?_
    obtain rfl := Option.some.inj hf
    exact r_zret hM hH (Or.inl rfl) (Or.inl rfl) ⟨(Nat.le_of_ble_eq_true rfl), (Nat.le_of_ble_eq_true rfl)⟩ dX5_isName_24
  · have hf := gpos h_2 hf
    refine lv_aload_n hM.fx.1 hM.fx.2.1 dX5_isName_10 rfl (lv_at hl 0 rfl) ?_
    refine r_getL hM.fx hM.kf hH fl_X5_99 (hLC.in hg0 (by decide)) dX5_isName_11 ?_
    have hr_3 := hH.2.2.l (hLC.in hg0 (by decide)).2.2 (by decide : glg 6 8 = true)
    refine lv_lconst (v := gj (0)) hM.fx.1 hM.fx.2.1 dX5_isName_14 (by decide) ?_
    refine r_lcmp hM.fx hr_3 (gRI_L (gcR (k := 0) (by decide))) dX5_isName_15 ?_
    refine r_if_eq (tgt := 23) hM.fx (glcmp_r _ _) dX5_isName_16 (by decide) (fun h_4 => ?_) (fun h_4 => ?_)
    · have hf := gpos h_4 hf
      refine lv_iconst (v := gi (0)) hM.fx.1 hM.fx.2.1 dX5_isName_23 rfl ?_
      obtain rfl := Option.some.inj hf
      exact r_zret hM hH (Or.inl rfl) (Or.inl rfl) ⟨(Nat.le_of_ble_eq_true rfl), (Nat.le_of_ble_eq_true rfl)⟩ dX5_isName_24
    · have hf := gneg' h_4 hf
      refine lv_iconst (v := gi (1)) hM.fx.1 hM.fx.2.1 dX5_isName_19 rfl ?_
      refine lv_goto (tgt := 24) hM.fx.1 hM.fx.2.1 dX5_isName_20 (by decide) ?_
      obtain rfl := Option.some.inj hf
      exact r_zret hM hH (Or.inr rfl) (Or.inr rfl) ⟨(Nat.le_of_ble_eq_true rfl), (Nat.le_of_ble_eq_true rfl)⟩ dX5_isName_24
def fX5_readName (g : Nat → Nat) (a0 : Nat) (M : gMem) : Option (Nat × gMem) :=
  (fX5_isName g a0 M).bind fun x_2 => if x_2 = 0 then ((fX5_fails g a0 ((-2)) (M a0 6) M).bind fun q_18 => some (0, q_18.2)) else ((fX0_procNamed g (a0 + 2) (M a0 8) M).bind fun x_6 => if x_6 = (-1) then ((fX0_addProc g (a0 + 2) (M a0 8) M).bind fun q_10 => (fX5_next g a0 q_10.2).bind fun M_12 => some (q_10.1, M_12)) else ((fX5_fails g a0 ((-5)) (M a0 6) M).bind fun q_15 => some (0, q_15.2)))
set_option maxHeartbeats 4000000 in
set_option maxRecDepth 100000 in
theorem mX5_readName {w : gW} {n : Nat} {Rm : Nat → Nat → Nat} {g : Nat → Nat} (hLC : gLC g n Rm) {l : Launch} (hl9 : l.stackTraces = false) {a0 : Nat} {M : gMem} {r : (Nat × gMem)} (hg0 : g a0 = 6) (hf : fX5_readName g a0 M = some r) : gMT w n Rm l yX5_readName cX5_readName 2 (some (.object "StackDesk$Proc")) 3 105 0 0 [.ref (w.1 + a0)] M (.inr (some (gvR w r.1))) r.2 (r.1 ≠ 0 → g r.1 = 5) := by
  unfold fX5_readName at hf
  refine gMT.of hl9 (by decide +kernel) ((Nat.le_of_ble_eq_true rfl)) ?_
  intro p e s m below meth c hM hH ls hl
  have hM : gMC w p l s m ([.ref (w.1 + a0)] : List Value).toArray meth c cX5_readName 2 RX5 (some (.object "StackDesk$Proc")) := hM
  have hl : lv_has ls 2 [(0, .ref (w.1 + a0))] := hl
  refine r_null (w := w) hM.fx dX5_readName_0 ?_
  refine r_astore_nV (lv' := [(1, gvR w 0), (0, .ref (w.1 + a0))]) hM.fx dX5_readName_1 rfl hl (by decide) rfl (fun ls hl => ?_)
  refine lv_aload_n hM.fx.1 hM.fx.2.1 dX5_readName_2 rfl (lv_at hl 1 rfl) ?_
  obtain ⟨x_2, ex_2, hf⟩ := gbd hf
  refine r_go1 hH rfl (r_runV (As := []) hM hH cv_X5_96 (mX5_isName hLC hM.ns hg0 ex_2) (hLC.in hg0 (by decide)) (by decide) rfl rfl rfl hl.1 rfl (Nat.le_of_ble_eq_true rfl) ⟨(Nat.le_of_ble_eq_true rfl), (Nat.le_of_ble_eq_true rfl)⟩ ⟨(Nat.le_of_ble_eq_true rfl), (Nat.le_of_ble_eq_true rfl)⟩ dX5_readName_3) (fun hp_1 H locs hH => ?_)
  refine r_if_ne (tgt := 23) hM.fx (gz_r hp_1) dX5_readName_6 (by decide) (fun h_3 => ?_) (fun h_3 => ?_)
  · have hf := gneg' h_3 hf
    refine lv_aload_n hM.fx.1 hM.fx.2.1 dX5_readName_23 rfl (lv_at hl 1 rfl) ?_
    refine r_getR hM.fx hM.kf hH hLC fl_X5_18 hg0 gch_6_1 dX5_readName_24 ?_
    refine lv_aload_n hM.fx.1 hM.fx.2.1 dX5_readName_27 rfl (lv_at hl 1 rfl) ?_
    refine r_getL hM.fx hM.kf hH fl_X5_99 (hLC.in hg0 (by decide)) dX5_readName_28 ?_
    have hr_4 := hH.2.2.l (hLC.in hg0 (by decide)).2.2 (by decide : glg 6 8 = true)
    obtain ⟨x_6, ex_6, hf⟩ := gbd hf
    refine r_go1 hH rfl (r_runV (As := [.long (gj (M a0 8))]) hM hH cv_X5_103 (mX0_procNamed hLC hM.ns (hLC.ch hg0 (by decide) gch_6_1) hr_4 ex_6) (hLC.in (hLC.ch hg0 (by decide) gch_6_1) (by decide)) (by decide) rfl rfl rfl hl.1 rfl (Nat.le_of_ble_eq_true rfl) ⟨(Nat.le_of_ble_eq_true rfl), (Nat.le_of_ble_eq_true rfl)⟩ ⟨(Nat.le_of_ble_eq_true rfl), (Nat.le_of_ble_eq_true rfl)⟩ dX5_readName_31) (fun hp_5 H locs hH => ?_)
    refine lv_iconst (v := gi (-1)) hM.fx.1 hM.fx.2.1 dX5_readName_34 rfl ?_
    refine r_icmp_eq (tgt := 52) hM.fx hp_5 (gcR (k := -1) (by decide)) dX5_readName_35 (by decide) (fun h_7 => ?_) (fun h_7 => ?_)
    · have hf := gpos h_7 hf
      refine lv_aload_n hM.fx.1 hM.fx.2.1 dX5_readName_52 rfl (lv_at hl 1 rfl) ?_
      refine r_getR hM.fx hM.kf hH hLC fl_X5_18 hg0 gch_6_1 dX5_readName_53 ?_
      refine lv_aload_n hM.fx.1 hM.fx.2.1 dX5_readName_56 rfl (lv_at hl 1 rfl) ?_
      refine r_getL hM.fx hM.kf hH fl_X5_99 (hLC.in hg0 (by decide)) dX5_readName_57 ?_
      have hr_8 := hH.2.2.l (hLC.in hg0 (by decide)).2.2 (by decide : glg 6 8 = true)
      obtain ⟨q_10, eq_10, hf⟩ := gbd hf
      refine r_go1 hH rfl (r_runV (As := [.long (gj (M a0 8))]) hM hH cv_X5_107 (mX0_addProc hLC hM.ns (hLC.ch hg0 (by decide) gch_6_1) hr_8 eq_10) (hLC.in (hLC.ch hg0 (by decide) gch_6_1) (by decide)) (by decide) rfl rfl rfl hl.1 rfl (Nat.le_of_ble_eq_true rfl) ⟨(Nat.le_of_ble_eq_true rfl), (Nat.le_of_ble_eq_true rfl)⟩ ⟨(Nat.le_of_ble_eq_true rfl), (Nat.le_of_ble_eq_true rfl)⟩ dX5_readName_60) (fun hp_9 H locs hH => ?_)
      refine r_astore_nV (lv' := [(1, gvR w q_10.1), (0, .ref (w.1 + a0))]) hM.fx dX5_readName_63 rfl hl (by decide) rfl (fun ls hl => ?_)
      refine lv_aload_n hM.fx.1 hM.fx.2.1 dX5_readName_64 rfl (lv_at hl 1 rfl) ?_
      obtain ⟨M_12, eM_12, hf⟩ := gbd hf
      refine r_go0 hH rfl (r_runV (As := []) hM hH cv_X5_35 (mX5_next hLC hM.ns hg0 eM_12) (hLC.in hg0 (by decide)) (by decide) rfl rfl rfl hl.1 rfl (Nat.le_of_ble_eq_true rfl) ⟨(Nat.le_of_ble_eq_true rfl), (Nat.le_of_ble_eq_true rfl)⟩ ⟨(Nat.le_of_ble_eq_true rfl), (Nat.le_of_ble_eq_true rfl)⟩ dX5_readName_65) (fun hp_11 H locs hH => ?_)
      refine r_aload_nV hM.fx dX5_readName_68 rfl (lv_at hl 0 rfl) ?_
      obtain rfl := Option.some.inj hf
      exact r_aretV hM hH (gvR_sh _) hp_9 ⟨(Nat.le_of_ble_eq_true rfl), (Nat.le_of_ble_eq_true rfl)⟩ dX5_readName_69
    · have hf := gneg' h_7 hf
      refine lv_aload_n hM.fx.1 hM.fx.2.1 dX5_readName_38 rfl (lv_at hl 1 rfl) ?_
      refine lv_bipush (v := gi (-5)) hM.fx.1 hM.fx.2.1 dX5_readName_39 (by decide) ?_
      refine lv_aload_n hM.fx.1 hM.fx.2.1 dX5_readName_41 rfl (lv_at hl 1 rfl) ?_
      refine r_getI hM.fx hM.kf hH fl_X5_68 (hLC.in hg0 (by decide)) dX5_readName_42 ?_
      have hr_13 := hH.2.2.i (hLC.in hg0 (by decide)).2.2 (by decide : glg 6 6 = false)
      obtain ⟨q_15, eq_15, hf⟩ := gbd hf
      refine r_go1 hH rfl (r_runV (As := [.int (gi ((-5))), .int (gi (M a0 6))]) hM hH cv_X5_71 (mX5_fails hLC hM.ns hg0 (gcR (k := -5) (by decide)) hr_13 eq_15) (hLC.in hg0 (by decide)) (by decide) rfl rfl rfl hl.1 rfl (Nat.le_of_ble_eq_true rfl) ⟨(Nat.le_of_ble_eq_true rfl), (Nat.le_of_ble_eq_true rfl)⟩ ⟨(Nat.le_of_ble_eq_true rfl), (Nat.le_of_ble_eq_true rfl)⟩ dX5_readName_45) (fun hp_14 H locs hH => ?_)
      refine lv_pop hM.fx.1 hM.fx.2.1 dX5_readName_48 rfl ?_
      refine lv_goto (tgt := 68) hM.fx.1 hM.fx.2.1 dX5_readName_49 (by decide) ?_
      refine r_aload_nV hM.fx dX5_readName_68 rfl (lv_at hl 0 rfl) ?_
      obtain rfl := Option.some.inj hf
      exact r_aretV hM hH (gvR_sh _) (fun h => absurd rfl h) ⟨(Nat.le_of_ble_eq_true rfl), (Nat.le_of_ble_eq_true rfl)⟩ dX5_readName_69
  · have hf := gpos h_3 hf
    refine lv_aload_n hM.fx.1 hM.fx.2.1 dX5_readName_9 rfl (lv_at hl 1 rfl) ?_
    refine lv_bipush (v := gi (-2)) hM.fx.1 hM.fx.2.1 dX5_readName_10 (by decide) ?_
    refine lv_aload_n hM.fx.1 hM.fx.2.1 dX5_readName_12 rfl (lv_at hl 1 rfl) ?_
    refine r_getI hM.fx hM.kf hH fl_X5_68 (hLC.in hg0 (by decide)) dX5_readName_13 ?_
    have hr_16 := hH.2.2.i (hLC.in hg0 (by decide)).2.2 (by decide : glg 6 6 = false)
    obtain ⟨q_18, eq_18, hf⟩ := gbd hf
    refine r_go1 hH rfl (r_runV (As := [.int (gi ((-2))), .int (gi (M a0 6))]) hM hH cv_X5_71 (mX5_fails hLC hM.ns hg0 (gcR (k := -2) (by decide)) hr_16 eq_18) (hLC.in hg0 (by decide)) (by decide) rfl rfl rfl hl.1 rfl (Nat.le_of_ble_eq_true rfl) ⟨(Nat.le_of_ble_eq_true rfl), (Nat.le_of_ble_eq_true rfl)⟩ ⟨(Nat.le_of_ble_eq_true rfl), (Nat.le_of_ble_eq_true rfl)⟩ dX5_readName_16) (fun hp_17 H locs hH => ?_)
    refine lv_pop hM.fx.1 hM.fx.2.1 dX5_readName_19 rfl ?_
    refine lv_goto (tgt := 68) hM.fx.1 hM.fx.2.1 dX5_readName_20 (by decide) ?_
    refine r_aload_nV hM.fx dX5_readName_68 rfl (lv_at hl 0 rfl) ?_
    obtain rfl := Option.some.inj hf
    exact r_aretV hM hH (gvR_sh _) (fun h => absurd rfl h) ⟨(Nat.le_of_ble_eq_true rfl), (Nat.le_of_ble_eq_true rfl)⟩ dX5_readName_69
def fX5_readTurnLength (g : Nat → Nat) (a0 : Nat) (a1 : Nat) (M : gMem) : Option (Int × gMem) :=
  (fX5_isWord g a0 2 M).bind fun x_2 => if x_2 = 0 then (some (1, M)) else ((fX5_next g a0 M).bind fun M_5 => (fX5_takeNumber g a0 1 9 M_5).bind fun q_7 => if q_7.1 = 0 then (some (0, q_7.2)) else (gst (gup q_7.2 a1 5 (q_7.2 a0 10)) fun M_10 => some (1, M_10)))
set_option maxHeartbeats 4000000 in
set_option maxRecDepth 100000 in
theorem mX5_readTurnLength {w : gW} {n : Nat} {Rm : Nat → Nat → Nat} {g : Nat → Nat} (hLC : gLC g n Rm) {l : Launch} (hl9 : l.stackTraces = false) {a0 : Nat} {a1 : Nat} {M : gMem} {r : (Int × gMem)} (hg0 : g a0 = 6) (hg1 : g a1 = 5) (hf : fX5_readTurnLength g a0 a1 M = some r) : gMT w n Rm l yX5_readTurnLength cX5_readTurnLength 2 (some .boolean) 10 294 0 0 [.ref (w.1 + a0), .ref (w.1 + a1)] M (.inr (some (.int (gi r.1)))) r.2 (r.1 = 0 ∨ r.1 = 1) := by
  unfold fX5_readTurnLength at hf
  refine gMT.of hl9 (by decide +kernel) ((Nat.le_of_ble_eq_true rfl)) ?_
  intro p e s m below meth c hM hH ls hl
  have hM : gMC w p l s m ([.ref (w.1 + a0), .ref (w.1 + a1)] : List Value).toArray meth c cX5_readTurnLength 2 RX5 (some .boolean) := hM
  have hl : lv_has ls 2 [(0, .ref (w.1 + a0)), (1, .ref (w.1 + a1))] := hl
  refine lv_aload_n hM.fx.1 hM.fx.2.1 dX5_readTurnLength_0 rfl (lv_at hl 0 rfl) ?_
  refine r_ldcS (tx := "turn") hM.fx hM.kf 2 rfl dX5_readTurnLength_1 ?_
  obtain ⟨x_2, ex_2, hf⟩ := gbd hf
  refine r_go1 hH rfl (r_runV (As := [gsR w 2]) hM hH cv_X5_76 (mX5_isWord hLC hM.ns hg0 (by decide : gtx 2 ≠ []) ex_2) (hLC.in hg0 (by decide)) (by decide) rfl rfl rfl hl.1 rfl (Nat.le_of_ble_eq_true rfl) ⟨(Nat.le_of_ble_eq_true rfl), (Nat.le_of_ble_eq_true rfl)⟩ ⟨(Nat.le_of_ble_eq_true rfl), (Nat.le_of_ble_eq_true rfl)⟩ dX5_readTurnLength_3) (fun hp_1 H locs hH => ?_)
  refine r_if_ne (tgt := 11) hM.fx (gz_r hp_1) dX5_readTurnLength_6 (by decide) (fun h_3 => ?_) (fun h_3 => ?_)
  · have hf := gneg' h_3 hf
    refine lv_aload_n hM.fx.1 hM.fx.2.1 dX5_readTurnLength_11 rfl (lv_at hl 0 rfl) ?_
    obtain ⟨M_5, eM_5, hf⟩ := gbd hf
    refine r_go0 hH rfl (r_runV (As := []) hM hH cv_X5_35 (mX5_next hLC hM.ns hg0 eM_5) (hLC.in hg0 (by decide)) (by decide) rfl rfl rfl hl.1 rfl (Nat.le_of_ble_eq_true rfl) ⟨(Nat.le_of_ble_eq_true rfl), (Nat.le_of_ble_eq_true rfl)⟩ ⟨(Nat.le_of_ble_eq_true rfl), (Nat.le_of_ble_eq_true rfl)⟩ dX5_readTurnLength_12) (fun hp_4 H locs hH => ?_)
    refine lv_aload_n hM.fx.1 hM.fx.2.1 dX5_readTurnLength_15 rfl (lv_at hl 0 rfl) ?_
    refine lv_iconst (v := gi (1)) hM.fx.1 hM.fx.2.1 dX5_readTurnLength_16 rfl ?_
    refine lv_bipush (v := gi (9)) hM.fx.1 hM.fx.2.1 dX5_readTurnLength_17 (by decide) ?_
    obtain ⟨q_7, eq_7, hf⟩ := gbd hf
    refine r_go1 hH rfl (r_runV (As := [.int (gi 1), .int (gi 9)]) hM hH cv_X5_43 (mX5_takeNumber hLC hM.ns hg0 (gcR (k := 1) (by decide)) (gcR (k := 9) (by decide)) eq_7) (hLC.in hg0 (by decide)) (by decide) rfl rfl rfl hl.1 rfl (Nat.le_of_ble_eq_true rfl) ⟨(Nat.le_of_ble_eq_true rfl), (Nat.le_of_ble_eq_true rfl)⟩ ⟨(Nat.le_of_ble_eq_true rfl), (Nat.le_of_ble_eq_true rfl)⟩ dX5_readTurnLength_19) (fun hp_6 H locs hH => ?_)
    refine r_if_ne (tgt := 27) hM.fx (gz_r hp_6) dX5_readTurnLength_22 (by decide) (fun h_8 => ?_) (fun h_8 => ?_)
    · have hf := gneg' h_8 hf
      refine lv_aload_n hM.fx.1 hM.fx.2.1 dX5_readTurnLength_27 rfl (lv_at hl 1 rfl) ?_
      refine lv_aload_n hM.fx.1 hM.fx.2.1 dX5_readTurnLength_28 rfl (lv_at hl 0 rfl) ?_
      refine r_getI hM.fx hM.kf hH fl_X5_47 (hLC.in hg0 (by decide)) dX5_readTurnLength_29 ?_
      have hr_9 := hH.2.2.i (hLC.in hg0 (by decide)).2.2 (by decide : glg 6 10 = false)
      refine r_putI hM.fx hM.kf hH fp_X5_113 (hLC.in hg1 (by decide)) hr_9 dX5_readTurnLength_32 (fun H locs hH => ?_)
      obtain ⟨M_10, eM_10, hf⟩ := gst_s hf
      rw [← eM_10] at hH
      refine lv_iconst (v := gi (1)) hM.fx.1 hM.fx.2.1 dX5_readTurnLength_35 rfl ?_
      obtain rfl := Option.some.inj hf
      exact r_zret hM hH (Or.inr rfl) (Or.inr rfl) ⟨(Nat.le_of_ble_eq_true rfl), (Nat.le_of_ble_eq_true rfl)⟩ dX5_readTurnLength_36
    · have hf := gpos h_8 hf
      refine lv_iconst (v := gi (0)) hM.fx.1 hM.fx.2.1 dX5_readTurnLength_25 rfl ?_
      obtain rfl := Option.some.inj hf
      exact r_zret hM hH (Or.inl rfl) (Or.inl rfl) ⟨(Nat.le_of_ble_eq_true rfl), (Nat.le_of_ble_eq_true rfl)⟩ dX5_readTurnLength_26
  · have hf := gpos h_3 hf
    refine lv_iconst (v := gi (1)) hM.fx.1 hM.fx.2.1 dX5_readTurnLength_9 rfl ?_
    obtain rfl := Option.some.inj hf
    exact r_zret hM hH (Or.inr rfl) (Or.inr rfl) ⟨(Nat.le_of_ble_eq_true rfl), (Nat.le_of_ble_eq_true rfl)⟩ dX5_readTurnLength_10
def fX5_readMay_38 (g : Nat → Nat) (k17 : Nat → Nat → Int → gMem → Option (Int × gMem)) (a0 : Nat) (a1 : Nat) (x2 : Int) (M : gMem) : Option (Int × gMem) :=
  gst (M a0 6) fun x_2 => (fX5_takeNumber g a0 0 (gwi (M (a0 + 2) 4 - 1)) M).bind fun q_5 => if q_5.1 = 0 then (some (0, q_5.2)) else ((fX4_mayUse g a1 (q_5.2 a0 10) q_5.2).bind fun x_9 => if x_9 = 0 then (gst (gup q_5.2 a1 6 (gor (q_5.2 a1 6) (gshl 1 (q_5.2 a0 10)))) fun M_13 => gst (gwi (x2 + 1)) fun x_14 => k17 a0 a1 x_14 M_13) else ((fX5_fails g a0 ((-5)) x_2 q_5.2).bind fun q_16 => some (q_16.1, q_16.2)))
set_option maxHeartbeats 4000000 in
set_option maxRecDepth 100000 in
theorem wX5_readMay_38 {w : gW} {n : Nat} {Rm : Nat → Nat → Nat} {g : Nat → Nat} (hLC : gLC g n Rm) {p : Program} {l : Launch} {e : Env} {s : State} {m : MethodId} {args : Array Value} {below : List Frame} {meth : Method} {c : Code} (hM : gMC w p l s m args meth c cX5_readMay 4 RX5 (some .boolean)) (k17 : Nat → Nat → Int → gMem → Option (Int × gMem)) (hk17 : ∀ (a0 : Nat) (a1 : Nat) (x2 : Int) (M : gMem) (r : (Int × gMem)) (hg0 : g a0 = 6) (hg1 : g a1 = 5) (hr2 : gRI x2) (hf : k17 a0 a1 x2 M = some r) (H : Heap) (locs : List Loc) (ls : Array Slot) (hH : gH w n Rm M s H locs) (hl : lv_has ls 4 [(0, .ref (w.1 + a0)), (1, .ref (w.1 + a1)), (2, .int (gi x2))]), W p l e { frames := 10, cells := 0, slots := 0, locals := 294 } s m args below meth c H locs 0 0 (gQ w n Rm below args s 0 0 (.inr (some (.int (gi r.1)))) r.2 (r.1 = 0 ∨ r.1 = 1)) (F0 m 17 ls [])) : ∀ (a0 : Nat) (a1 : Nat) (x2 : Int) (M : gMem) (r : (Int × gMem)) (hg0 : g a0 = 6) (hg1 : g a1 = 5) (hr2 : gRI x2) (hf : fX5_readMay_38 g k17 a0 a1 x2 M = some r) (H : Heap) (locs : List Loc) (ls : Array Slot) (hH : gH w n Rm M s H locs) (hl : lv_has ls 4 [(0, .ref (w.1 + a0)), (1, .ref (w.1 + a1)), (2, .int (gi x2))]), W p l e { frames := 10, cells := 0, slots := 0, locals := 294 } s m args below meth c H locs 0 0 (gQ w n Rm below args s 0 0 (.inr (some (.int (gi r.1)))) r.2 (r.1 = 0 ∨ r.1 = 1)) (F0 m 38 ls []) := by
  intro a0 a1 x2 M r hg0 hg1 hr2 hf H locs ls hH hl
  unfold fX5_readMay_38 at hf
  refine lv_aload_n hM.fx.1 hM.fx.2.1 dX5_readMay_38 rfl (lv_at hl 0 rfl) ?_
  refine r_getI hM.fx hM.kf hH fl_X5_68 (hLC.in hg0 (by decide)) dX5_readMay_39 ?_
  have hr_1 := hH.2.2.i (hLC.in hg0 (by decide)).2.2 (by decide : glg 6 6 = false)
  obtain ⟨x_2, ex_2, hf⟩ := gst_s hf
  refine W.eq (g2 := F0 m _ ls (.int (gi x_2) :: _)) (by rw [ex_2]) ?_
  have hx_2 : gRI x_2 := by rw [ex_2]; exact hr_1
  refine lv_istore_n (lv' := [(3, .int (gi x_2)), (0, .ref (w.1 + a0)), (1, .ref (w.1 + a1)), (2, .int (gi x2))]) hM.fx.1 hM.fx.2.1 dX5_readMay_42 rfl hl (by decide) rfl (fun ls hl => ?_)
  refine lv_aload_n hM.fx.1 hM.fx.2.1 dX5_readMay_43 rfl (lv_at hl 1 rfl) ?_
  refine lv_iconst (v := gi (0)) hM.fx.1 hM.fx.2.1 dX5_readMay_44 rfl ?_
  refine lv_aload_n hM.fx.1 hM.fx.2.1 dX5_readMay_45 rfl (lv_at hl 1 rfl) ?_
  refine r_getR hM.fx hM.kf hH hLC fl_X5_18 hg0 gch_6_1 dX5_readMay_46 ?_
  refine r_getI hM.fx hM.kf hH fl_X5_120 (hLC.in (hLC.ch hg0 (by decide) gch_6_1) (by decide)) dX5_readMay_49 ?_
  have hr_3 := hH.2.2.i (hLC.in (hLC.ch hg0 (by decide) gch_6_1) (by decide)).2.2 (by decide : glg 1 4 = false)
  refine lv_iconst (v := gi (1)) hM.fx.1 hM.fx.2.1 dX5_readMay_52 rfl ?_
  refine r_isub hM.fx dX5_readMay_53 ?_
  obtain ⟨q_5, eq_5, hf⟩ := gbd hf
  refine r_go1 hH rfl (r_runV (As := [.int (gi 0), .int (gi (gwi (M (a0 + 2) 4 - 1)))]) hM hH cv_X5_43 (mX5_takeNumber hLC hM.ns hg0 (gcR (k := 0) (by decide)) (gwi_r _) eq_5) (hLC.in hg0 (by decide)) (by decide) rfl rfl rfl hl.1 rfl (Nat.le_of_ble_eq_true rfl) ⟨(Nat.le_of_ble_eq_true rfl), (Nat.le_of_ble_eq_true rfl)⟩ ⟨(Nat.le_of_ble_eq_true rfl), (Nat.le_of_ble_eq_true rfl)⟩ dX5_readMay_54) (fun hp_4 H locs hH => ?_)
  refine r_if_ne (tgt := 62) hM.fx (gz_r hp_4) dX5_readMay_57 (by decide) (fun h_6 => ?_) (fun h_6 => ?_)
  · have hf := gneg' h_6 hf
    refine lv_aload_n hM.fx.1 hM.fx.2.1 dX5_readMay_62 rfl (lv_at hl 2 rfl) ?_
    refine lv_aload_n hM.fx.1 hM.fx.2.1 dX5_readMay_63 rfl (lv_at hl 1 rfl) ?_
    refine r_getI hM.fx hM.kf hH fl_X5_47 (hLC.in hg0 (by decide)) dX5_readMay_64 ?_
    have hr_7 := hH.2.2.i (hLC.in hg0 (by decide)).2.2 (by decide : glg 6 10 = false)
    obtain ⟨x_9, ex_9, hf⟩ := gbd hf
    refine r_go1 hH rfl (r_runV (As := [.int (gi (q_5.2 a0 10))]) hM hH cv_X5_123 (mX4_mayUse hLC hM.ns hg1 hr_7 ex_9) (hLC.in hg1 (by decide)) (by decide) rfl rfl rfl hl.1 rfl (Nat.le_of_ble_eq_true rfl) ⟨(Nat.le_of_ble_eq_true rfl), (Nat.le_of_ble_eq_true rfl)⟩ ⟨(Nat.le_of_ble_eq_true rfl), (Nat.le_of_ble_eq_true rfl)⟩ dX5_readMay_67) (fun hp_8 H locs hH => ?_)
    refine r_if_eq (tgt := 81) hM.fx (gz_r hp_8) dX5_readMay_70 (by decide) (fun h_10 => ?_) (fun h_10 => ?_)
    · have hf := gpos h_10 hf
      refine lv_aload_n hM.fx.1 hM.fx.2.1 dX5_readMay_81 rfl (lv_at hl 2 rfl) ?_
      refine lv_dup hM.fx.1 hM.fx.2.1 dX5_readMay_82 rfl ?_
      refine r_getI hM.fx hM.kf hH fl_X5_126 (hLC.in hg1 (by decide)) dX5_readMay_83 ?_
      have hr_11 := hH.2.2.i (hLC.in hg1 (by decide)).2.2 (by decide : glg 5 6 = false)
      refine lv_iconst (v := gi (1)) hM.fx.1 hM.fx.2.1 dX5_readMay_86 rfl ?_
      refine lv_aload_n hM.fx.1 hM.fx.2.1 dX5_readMay_87 rfl (lv_at hl 1 rfl) ?_
      refine r_getI hM.fx hM.kf hH fl_X5_47 (hLC.in hg0 (by decide)) dX5_readMay_88 ?_
      have hr_12 := hH.2.2.i (hLC.in hg0 (by decide)).2.2 (by decide : glg 6 10 = false)
      refine r_ishl hM.fx dX5_readMay_91 ?_
      refine r_ior hM.fx dX5_readMay_92 ?_
      refine r_putI hM.fx hM.kf hH fp_X5_126 (hLC.in hg1 (by decide)) (gi_r _) dX5_readMay_93 (fun H locs hH => ?_)
      obtain ⟨M_13, eM_13, hf⟩ := gst_s hf
      rw [← eM_13] at hH
      obtain ⟨x_14, ex_14, hf⟩ := gst_s hf
      have hx_14 : gRI x_14 := by rw [ex_14]; exact gwi_r _
      refine r_iinc (lv' := [(2, .int (gi x_14)), (3, .int (gi x_2)), (0, .ref (w.1 + a0)), (1, .ref (w.1 + a1))]) hM.fx dX5_readMay_96 hl (k := 3) rfl (by decide) (by rw [ex_14]; rfl) (fun ls hl => ?_)
      refine lv_goto (tgt := 17) hM.fx.1 hM.fx.2.1 dX5_readMay_99 (by decide) ?_
      exact hk17 _ _ _ _ _ hg0 hg1 hx_14 hf _ _ _ hH (lv_sub hl [2, 3, 0] rfl)
    · have hf := gneg' h_10 hf
      refine lv_aload_n hM.fx.1 hM.fx.2.1 dX5_readMay_73 rfl (lv_at hl 1 rfl) ?_
      refine lv_bipush (v := gi (-5)) hM.fx.1 hM.fx.2.1 dX5_readMay_74 (by decide) ?_
      refine lv_iload_n hM.fx.1 hM.fx.2.1 dX5_readMay_76 rfl (lv_at hl 0 rfl) ?_
      obtain ⟨q_16, eq_16, hf⟩ := gbd hf
      refine r_go1 hH rfl (r_runV (As := [.int (gi ((-5))), .int (gi x_2)]) hM hH cv_X5_71 (mX5_fails hLC hM.ns hg0 (gcR (k := -5) (by decide)) hx_2 eq_16) (hLC.in hg0 (by decide)) (by decide) rfl rfl rfl hl.1 rfl (Nat.le_of_ble_eq_true rfl) ⟨(Nat.le_of_ble_eq_true rfl), (Nat.le_of_ble_eq_true rfl)⟩ ⟨(Nat.le_of_ble_eq_true rfl), (Nat.le_of_ble_eq_true rfl)⟩ dX5_readMay_77) (fun hp_15 H locs hH => ?_)
      obtain rfl := Option.some.inj hf
      exact r_zret hM hH hp_15 hp_15 ⟨(Nat.le_of_ble_eq_true rfl), (Nat.le_of_ble_eq_true rfl)⟩ dX5_readMay_80
  · have hf := gpos h_6 hf
    refine lv_iconst (v := gi (0)) hM.fx.1 hM.fx.2.1 dX5_readMay_60 rfl ?_
    obtain rfl := Option.some.inj hf
    exact r_zret hM hH (Or.inl rfl) (Or.inl rfl) ⟨(Nat.le_of_ble_eq_true rfl), (Nat.le_of_ble_eq_true rfl)⟩ dX5_readMay_61
def fX5_readMay_17 (g : Nat → Nat)  : Nat → Nat → Nat → Int → gMem → Option (Int × gMem)
  | 0, _, _, _, _ => none
  | fu + 1, a0, a1, x2, M => if 600 ≤ x2 then (some (1, M)) else (if x2 = 0 then (fX5_readMay_38 g (fX5_readMay_17 g fu) a0 a1 x2 M) else (if M a0 7 = 257 then (fX5_readMay_38 g (fX5_readMay_17 g fu) a0 a1 x2 M) else (some (1, M))))
set_option maxHeartbeats 4000000 in
set_option maxRecDepth 100000 in
theorem wX5_readMay_17 {w : gW} {n : Nat} {Rm : Nat → Nat → Nat} {g : Nat → Nat} (hLC : gLC g n Rm) {p : Program} {l : Launch} {e : Env} {s : State} {m : MethodId} {args : Array Value} {below : List Frame} {meth : Method} {c : Code} (hM : gMC w p l s m args meth c cX5_readMay 4 RX5 (some .boolean))  : ∀ (fu : Nat), ∀ (a0 : Nat) (a1 : Nat) (x2 : Int) (M : gMem) (r : (Int × gMem)) (hg0 : g a0 = 6) (hg1 : g a1 = 5) (hr2 : gRI x2) (hf : fX5_readMay_17 g fu a0 a1 x2 M = some r) (H : Heap) (locs : List Loc) (ls : Array Slot) (hH : gH w n Rm M s H locs) (hl : lv_has ls 4 [(0, .ref (w.1 + a0)), (1, .ref (w.1 + a1)), (2, .int (gi x2))]), W p l e { frames := 10, cells := 0, slots := 0, locals := 294 } s m args below meth c H locs 0 0 (gQ w n Rm below args s 0 0 (.inr (some (.int (gi r.1)))) r.2 (r.1 = 0 ∨ r.1 = 1)) (F0 m 17 ls []) := by
  intro fu
  induction fu with
  | zero =>
    intro a0 a1 x2 M r hg0 hg1 hr2 hf H locs ls hH hl
    exact absurd hf (by simp [fX5_readMay_17])
  | succ fu ih =>
    intro a0 a1 x2 M r hg0 hg1 hr2 hf H locs ls hH hl
    unfold fX5_readMay_17 at hf
    refine lv_iload_n hM.fx.1 hM.fx.2.1 dX5_readMay_17 rfl (lv_at hl 2 rfl) ?_
    refine lv_sipush (v := gi (600)) hM.fx.1 hM.fx.2.1 dX5_readMay_18 (by decide) ?_
    refine r_icmp_ge (tgt := 102) hM.fx hr2 (gcR (k := 600) (by decide)) dX5_readMay_21 (by decide) (fun h_1 => ?_) (fun h_1 => ?_)
    · have hf := gpos h_1 hf
      refine lv_iconst (v := gi (1)) hM.fx.1 hM.fx.2.1 dX5_readMay_102 rfl ?_
      obtain rfl := Option.some.inj hf
      exact r_zret hM hH (Or.inr rfl) (Or.inr rfl) ⟨(Nat.le_of_ble_eq_true rfl), (Nat.le_of_ble_eq_true rfl)⟩ dX5_readMay_103
    · have hf := gneg' h_1 hf
      refine lv_iload_n hM.fx.1 hM.fx.2.1 dX5_readMay_24 rfl (lv_at hl 2 rfl) ?_
      refine r_if_eq (tgt := 38) hM.fx hr2 dX5_readMay_25 (by decide) (fun h_2 => ?_) (fun h_2 => ?_)
      · have hf := gpos h_2 hf
        exact wX5_readMay_38 hLC hM (fX5_readMay_17 g fu) ih  _ _ _ _ _ hg0 hg1 hr2 hf _ _ _ hH hl
      · have hf := gneg' h_2 hf
        refine lv_aload_n hM.fx.1 hM.fx.2.1 dX5_readMay_28 rfl (lv_at hl 0 rfl) ?_
        refine r_getI hM.fx hM.kf hH fl_X5_65 (hLC.in hg0 (by decide)) dX5_readMay_29 ?_
        have hr_3 := hH.2.2.i (hLC.in hg0 (by decide)).2.2 (by decide : glg 6 7 = false)
        refine lv_sipush (v := gi (257)) hM.fx.1 hM.fx.2.1 dX5_readMay_32 (by decide) ?_
        refine r_icmp_ne (tgt := 102) hM.fx hr_3 (gcR (k := 257) (by decide)) dX5_readMay_35 (by decide) (fun h_4 => ?_) (fun h_4 => ?_)
        · have hf := gneg' h_4 hf
          refine lv_iconst (v := gi (1)) hM.fx.1 hM.fx.2.1 dX5_readMay_102 rfl ?_
          obtain rfl := Option.some.inj hf
          exact r_zret hM hH (Or.inr rfl) (Or.inr rfl) ⟨(Nat.le_of_ble_eq_true rfl), (Nat.le_of_ble_eq_true rfl)⟩ dX5_readMay_103
        · have hf := gpos h_4 hf
          exact wX5_readMay_38 hLC hM (fX5_readMay_17 g fu) ih  _ _ _ _ _ hg0 hg1 hr2 hf _ _ _ hH hl
def fX5_readMay (g : Nat → Nat) (a0 : Nat) (a1 : Nat) (M : gMem) : Option (Int × gMem) :=
  (fX5_isWord g a0 3 M).bind fun x_2 => if x_2 = 0 then (some (1, M)) else ((fX5_next g a0 M).bind fun M_5 => fX5_readMay_17 g gF a0 a1 0 M_5)
set_option maxHeartbeats 4000000 in
set_option maxRecDepth 100000 in
theorem mX5_readMay {w : gW} {n : Nat} {Rm : Nat → Nat → Nat} {g : Nat → Nat} (hLC : gLC g n Rm) {l : Launch} (hl9 : l.stackTraces = false) {a0 : Nat} {a1 : Nat} {M : gMem} {r : (Int × gMem)} (hg0 : g a0 = 6) (hg1 : g a1 = 5) (hf : fX5_readMay g a0 a1 M = some r) : gMT w n Rm l yX5_readMay cX5_readMay 4 (some .boolean) 10 294 0 0 [.ref (w.1 + a0), .ref (w.1 + a1)] M (.inr (some (.int (gi r.1)))) r.2 (r.1 = 0 ∨ r.1 = 1) := by
  unfold fX5_readMay at hf
  refine gMT.of hl9 (by decide +kernel) ((Nat.le_of_ble_eq_true rfl)) ?_
  intro p e s m below meth c hM hH ls hl
  have hM : gMC w p l s m ([.ref (w.1 + a0), .ref (w.1 + a1)] : List Value).toArray meth c cX5_readMay 4 RX5 (some .boolean) := hM
  have hl : lv_has ls 4 [(0, .ref (w.1 + a0)), (1, .ref (w.1 + a1))] := hl
  refine lv_aload_n hM.fx.1 hM.fx.2.1 dX5_readMay_0 rfl (lv_at hl 0 rfl) ?_
  refine r_ldcS (tx := "may") hM.fx hM.kf 3 rfl dX5_readMay_1 ?_
  obtain ⟨x_2, ex_2, hf⟩ := gbd hf
  refine r_go1 hH rfl (r_runV (As := [gsR w 3]) hM hH cv_X5_76 (mX5_isWord hLC hM.ns hg0 (by decide : gtx 3 ≠ []) ex_2) (hLC.in hg0 (by decide)) (by decide) rfl rfl rfl hl.1 rfl (Nat.le_of_ble_eq_true rfl) ⟨(Nat.le_of_ble_eq_true rfl), (Nat.le_of_ble_eq_true rfl)⟩ ⟨(Nat.le_of_ble_eq_true rfl), (Nat.le_of_ble_eq_true rfl)⟩ dX5_readMay_3) (fun hp_1 H locs hH => ?_)
  refine r_if_ne (tgt := 11) hM.fx (gz_r hp_1) dX5_readMay_6 (by decide) (fun h_3 => ?_) (fun h_3 => ?_)
  · have hf := gneg' h_3 hf
    refine lv_aload_n hM.fx.1 hM.fx.2.1 dX5_readMay_11 rfl (lv_at hl 0 rfl) ?_
    obtain ⟨M_5, eM_5, hf⟩ := gbd hf
    refine r_go0 hH rfl (r_runV (As := []) hM hH cv_X5_35 (mX5_next hLC hM.ns hg0 eM_5) (hLC.in hg0 (by decide)) (by decide) rfl rfl rfl hl.1 rfl (Nat.le_of_ble_eq_true rfl) ⟨(Nat.le_of_ble_eq_true rfl), (Nat.le_of_ble_eq_true rfl)⟩ ⟨(Nat.le_of_ble_eq_true rfl), (Nat.le_of_ble_eq_true rfl)⟩ dX5_readMay_12) (fun hp_4 H locs hH => ?_)
    refine lv_iconst (v := gi (0)) hM.fx.1 hM.fx.2.1 dX5_readMay_15 rfl ?_
    refine lv_istore_n (lv' := [(2, .int (gi 0)), (0, .ref (w.1 + a0)), (1, .ref (w.1 + a1))]) hM.fx.1 hM.fx.2.1 dX5_readMay_16 rfl hl (by decide) rfl (fun ls hl => ?_)
    exact wX5_readMay_17 hLC hM  gF _ _ _ _ _ hg0 hg1 (gcR (k := 0) (by decide)) hf _ _ _ hH (lv_sub hl [1, 2, 0] rfl)
  · have hf := gpos h_3 hf
    refine lv_iconst (v := gi (1)) hM.fx.1 hM.fx.2.1 dX5_readMay_9 rfl ?_
    obtain rfl := Option.some.inj hf
    exact r_zret hM hH (Or.inr rfl) (Or.inr rfl) ⟨(Nat.le_of_ble_eq_true rfl), (Nat.le_of_ble_eq_true rfl)⟩ dX5_readMay_10
def fX5_wordOf (g : Nat → Nat) (x0 : Int) : Option Nat :=
  if x0 = 0 then (some 4) else (if x0 = 1 then (some 5) else (if x0 = 2 then (some 6) else (if x0 = 3 then (some 7) else (if x0 = 4 then (some 8) else (if x0 = 5 then (some 9) else (if x0 = 6 then (some 10) else (if x0 = 7 then (some 11) else (if x0 = 8 then (some 12) else (if x0 = 9 then (some 13) else (if x0 = 10 then (some 14) else (if x0 = 11 then (some 15) else (if x0 = 12 then (some 16) else (some 17)))))))))))))
set_option maxHeartbeats 4000000 in
set_option maxRecDepth 100000 in
theorem mX5_wordOf {w : gW} {n : Nat} {Rm : Nat → Nat → Nat} {g : Nat → Nat} (hLC : gLC g n Rm) {l : Launch} (hl9 : l.stackTraces = false) {x0 : Int} {M : gMem} {r : Nat} (hr0 : gRI x0) (hf : fX5_wordOf g x0 = some r) : gMT w n Rm l yX5_wordOf cX5_wordOf 1 (some (.object "java/lang/String")) 1 60 0 0 [.int (gi x0)] M (.inr (some (gsR w r))) M (gtx r ≠ []) := by
  unfold fX5_wordOf at hf
  refine gMT.of hl9 (by decide +kernel) ((Nat.le_of_ble_eq_true rfl)) ?_
  intro p e s m below meth c hM hH ls hl
  have hM : gMC w p l s m ([.int (gi x0)] : List Value).toArray meth c cX5_wordOf 1 RX5 (some (.object "java/lang/String")) := hM
  have hl : lv_has ls 1 [(0, .int (gi x0))] := hl
  refine lv_iload_n hM.fx.1 hM.fx.2.1 dX5_wordOf_0 rfl (lv_at hl 0 rfl) ?_
  by_cases h_1 : x0 = 0
  · refine r_tsIn (tgt := 68) hM.fx hr0 0 dX5_wordOf_1 h_1 (by decide) rfl (by decide) ?_
    have hf := gpos h_1 hf
    refine r_ldcS (tx := "push") hM.fx hM.kf 4 rfl dX5_wordOf_68 ?_
    obtain rfl := Option.some.inj hf
    exact r_aretV hM hH (Or.inr ⟨_, rfl⟩) (by decide : gtx 4 ≠ []) ⟨(Nat.le_of_ble_eq_true rfl), (Nat.le_of_ble_eq_true rfl)⟩ dX5_wordOf_70
  · have hf := gneg' h_1 hf
    by_cases h_2 : x0 = 1
    · refine r_tsIn (tgt := 71) hM.fx hr0 1 dX5_wordOf_1 h_2 (by decide) rfl (by decide) ?_
      have hf := gpos h_2 hf
      refine r_ldcS (tx := "pop") hM.fx hM.kf 5 rfl dX5_wordOf_71 ?_
      obtain rfl := Option.some.inj hf
      exact r_aretV hM hH (Or.inr ⟨_, rfl⟩) (by decide : gtx 5 ≠ []) ⟨(Nat.le_of_ble_eq_true rfl), (Nat.le_of_ble_eq_true rfl)⟩ dX5_wordOf_73
    · have hf := gneg' h_2 hf
      by_cases h_3 : x0 = 2
      · refine r_tsIn (tgt := 74) hM.fx hr0 2 dX5_wordOf_1 h_3 (by decide) rfl (by decide) ?_
        have hf := gpos h_3 hf
        refine r_ldcS (tx := "dup") hM.fx hM.kf 6 rfl dX5_wordOf_74 ?_
        obtain rfl := Option.some.inj hf
        exact r_aretV hM hH (Or.inr ⟨_, rfl⟩) (by decide : gtx 6 ≠ []) ⟨(Nat.le_of_ble_eq_true rfl), (Nat.le_of_ble_eq_true rfl)⟩ dX5_wordOf_76
      · have hf := gneg' h_3 hf
        by_cases h_4 : x0 = 3
        · refine r_tsIn (tgt := 77) hM.fx hr0 3 dX5_wordOf_1 h_4 (by decide) rfl (by decide) ?_
          have hf := gpos h_4 hf
          refine r_ldcS (tx := "flip") hM.fx hM.kf 7 rfl dX5_wordOf_77 ?_
          obtain rfl := Option.some.inj hf
          exact r_aretV hM hH (Or.inr ⟨_, rfl⟩) (by decide : gtx 7 ≠ []) ⟨(Nat.le_of_ble_eq_true rfl), (Nat.le_of_ble_eq_true rfl)⟩ dX5_wordOf_79
        · have hf := gneg' h_4 hf
          by_cases h_5 : x0 = 4
          · refine r_tsIn (tgt := 80) hM.fx hr0 4 dX5_wordOf_1 h_5 (by decide) rfl (by decide) ?_
            have hf := gpos h_5 hf
            refine r_ldcS (tx := "add") hM.fx hM.kf 8 rfl dX5_wordOf_80 ?_
            obtain rfl := Option.some.inj hf
            exact r_aretV hM hH (Or.inr ⟨_, rfl⟩) (by decide : gtx 8 ≠ []) ⟨(Nat.le_of_ble_eq_true rfl), (Nat.le_of_ble_eq_true rfl)⟩ dX5_wordOf_82
          · have hf := gneg' h_5 hf
            by_cases h_6 : x0 = 5
            · refine r_tsIn (tgt := 83) hM.fx hr0 5 dX5_wordOf_1 h_6 (by decide) rfl (by decide) ?_
              have hf := gpos h_6 hf
              refine r_ldcS (tx := "sub") hM.fx hM.kf 9 rfl dX5_wordOf_83 ?_
              obtain rfl := Option.some.inj hf
              exact r_aretV hM hH (Or.inr ⟨_, rfl⟩) (by decide : gtx 9 ≠ []) ⟨(Nat.le_of_ble_eq_true rfl), (Nat.le_of_ble_eq_true rfl)⟩ dX5_wordOf_85
            · have hf := gneg' h_6 hf
              by_cases h_7 : x0 = 6
              · refine r_tsIn (tgt := 86) hM.fx hr0 6 dX5_wordOf_1 h_7 (by decide) rfl (by decide) ?_
                have hf := gpos h_7 hf
                refine r_ldcS (tx := "mul") hM.fx hM.kf 10 rfl dX5_wordOf_86 ?_
                obtain rfl := Option.some.inj hf
                exact r_aretV hM hH (Or.inr ⟨_, rfl⟩) (by decide : gtx 10 ≠ []) ⟨(Nat.le_of_ble_eq_true rfl), (Nat.le_of_ble_eq_true rfl)⟩ dX5_wordOf_88
              · have hf := gneg' h_7 hf
                by_cases h_8 : x0 = 7
                · refine r_tsIn (tgt := 89) hM.fx hr0 7 dX5_wordOf_1 h_8 (by decide) rfl (by decide) ?_
                  have hf := gpos h_8 hf
                  refine r_ldcS (tx := "say") hM.fx hM.kf 11 rfl dX5_wordOf_89 ?_
                  obtain rfl := Option.some.inj hf
                  exact r_aretV hM hH (Or.inr ⟨_, rfl⟩) (by decide : gtx 11 ≠ []) ⟨(Nat.le_of_ble_eq_true rfl), (Nat.le_of_ble_eq_true rfl)⟩ dX5_wordOf_91
                · have hf := gneg' h_8 hf
                  by_cases h_9 : x0 = 8
                  · refine r_tsIn (tgt := 92) hM.fx hr0 8 dX5_wordOf_1 h_9 (by decide) rfl (by decide) ?_
                    have hf := gpos h_9 hf
                    refine r_ldcS (tx := "lay") hM.fx hM.kf 12 rfl dX5_wordOf_92 ?_
                    obtain rfl := Option.some.inj hf
                    exact r_aretV hM hH (Or.inr ⟨_, rfl⟩) (by decide : gtx 12 ≠ []) ⟨(Nat.le_of_ble_eq_true rfl), (Nat.le_of_ble_eq_true rfl)⟩ dX5_wordOf_94
                  · have hf := gneg' h_9 hf
                    by_cases h_10 : x0 = 9
                    · refine r_tsIn (tgt := 95) hM.fx hr0 9 dX5_wordOf_1 h_10 (by decide) rfl (by decide) ?_
                      have hf := gpos h_10 hf
                      refine r_ldcS (tx := "take") hM.fx hM.kf 13 rfl dX5_wordOf_95 ?_
                      obtain rfl := Option.some.inj hf
                      exact r_aretV hM hH (Or.inr ⟨_, rfl⟩) (by decide : gtx 13 ≠ []) ⟨(Nat.le_of_ble_eq_true rfl), (Nat.le_of_ble_eq_true rfl)⟩ dX5_wordOf_97
                    · have hf := gneg' h_10 hf
                      by_cases h_11 : x0 = 10
                      · refine r_tsIn (tgt := 98) hM.fx hr0 10 dX5_wordOf_1 h_11 (by decide) rfl (by decide) ?_
                        have hf := gpos h_11 hf
                        refine r_ldcS (tx := "swap") hM.fx hM.kf 14 rfl dX5_wordOf_98 ?_
                        obtain rfl := Option.some.inj hf
                        exact r_aretV hM hH (Or.inr ⟨_, rfl⟩) (by decide : gtx 14 ≠ []) ⟨(Nat.le_of_ble_eq_true rfl), (Nat.le_of_ble_eq_true rfl)⟩ dX5_wordOf_100
                      · have hf := gneg' h_11 hf
                        by_cases h_12 : x0 = 11
                        · refine r_tsIn (tgt := 101) hM.fx hr0 11 dX5_wordOf_1 h_12 (by decide) rfl (by decide) ?_
                          have hf := gpos h_12 hf
                          refine r_ldcS (tx := "jump") hM.fx hM.kf 15 rfl dX5_wordOf_101 ?_
                          obtain rfl := Option.some.inj hf
                          exact r_aretV hM hH (Or.inr ⟨_, rfl⟩) (by decide : gtx 15 ≠ []) ⟨(Nat.le_of_ble_eq_true rfl), (Nat.le_of_ble_eq_true rfl)⟩ dX5_wordOf_103
                        · have hf := gneg' h_12 hf
                          by_cases h_13 : x0 = 12
                          · refine r_tsIn (tgt := 104) hM.fx hr0 12 dX5_wordOf_1 h_13 (by decide) rfl (by decide) ?_
                            have hf := gpos h_13 hf
                            refine r_ldcS (tx := "zero") hM.fx hM.kf 16 rfl dX5_wordOf_104 ?_
                            obtain rfl := Option.some.inj hf
                            exact r_aretV hM hH (Or.inr ⟨_, rfl⟩) (by decide : gtx 16 ≠ []) ⟨(Nat.le_of_ble_eq_true rfl), (Nat.le_of_ble_eq_true rfl)⟩ dX5_wordOf_106
                          · have hf := gneg' h_13 hf
                            refine r_tsOut (tgt := 107) hM.fx hr0 dX5_wordOf_1 (by omega) (by decide) ?_
                            refine r_ldcS (tx := "halt") hM.fx hM.kf 17 rfl dX5_wordOf_107 ?_
                            obtain rfl := Option.some.inj hf
                            exact r_aretV hM hH (Or.inr ⟨_, rfl⟩) (by decide : gtx 17 ≠ []) ⟨(Nat.le_of_ble_eq_true rfl), (Nat.le_of_ble_eq_true rfl)⟩ dX5_wordOf_109
def fX5_kindOfWord_2 (g : Nat → Nat)  : Nat → Nat → Int → gMem → Option Int
  | 0, _, _, _ => none
  | fu + 1, a0, x1, M => if 13 < x1 then (some (-1)) else ((fX5_wordOf g x1).bind fun t_3 => (fX5_isWord g a0 t_3 M).bind fun x_5 => if x_5 = 0 then (gst (gwi (x1 + 1)) fun x_7 => fX5_kindOfWord_2 g fu a0 x_7 M) else (some x1))
set_option maxHeartbeats 4000000 in
set_option maxRecDepth 100000 in
theorem wX5_kindOfWord_2 {w : gW} {n : Nat} {Rm : Nat → Nat → Nat} {g : Nat → Nat} (hLC : gLC g n Rm) {p : Program} {l : Launch} {e : Env} {s : State} {m : MethodId} {args : Array Value} {below : List Frame} {meth : Method} {c : Code} (hM : gMC w p l s m args meth c cX5_kindOfWord 2 RX5 (some .int))  : ∀ (fu : Nat), ∀ (a0 : Nat) (x1 : Int) (M : gMem) (r : Int) (hg0 : g a0 = 6) (hr1 : gRI x1) (hf : fX5_kindOfWord_2 g fu a0 x1 M = some r) (H : Heap) (locs : List Loc) (ls : Array Slot) (hH : gH w n Rm M s H locs) (hl : lv_has ls 2 [(0, .ref (w.1 + a0)), (1, .int (gi x1))]), W p l e { frames := 10, cells := 0, slots := 0, locals := 294 } s m args below meth c H locs 0 0 (gQ w n Rm below args s 0 0 (.inr (some (.int (gi r)))) M (gRI r)) (F0 m 2 ls []) := by
  intro fu
  induction fu with
  | zero =>
    intro a0 x1 M r hg0 hr1 hf H locs ls hH hl
    exact absurd hf (by simp [fX5_kindOfWord_2])
  | succ fu ih =>
    intro a0 x1 M r hg0 hr1 hf H locs ls hH hl
    unfold fX5_kindOfWord_2 at hf
    refine lv_iload_n hM.fx.1 hM.fx.2.1 dX5_kindOfWord_2 rfl (lv_at hl 1 rfl) ?_
    refine lv_bipush (v := gi (13)) hM.fx.1 hM.fx.2.1 dX5_kindOfWord_3 (by decide) ?_
    refine r_icmp_gt (tgt := 27) hM.fx hr1 (gcR (k := 13) (by decide)) dX5_kindOfWord_5 (by decide) (fun h_1 => ?_) (fun h_1 => ?_)
    · have hf := gpos h_1 hf
      refine lv_iconst (v := gi (-1)) hM.fx.1 hM.fx.2.1 dX5_kindOfWord_27 rfl ?_
      obtain rfl := Option.some.inj hf
      exact r_iret hM hH (gcR (k := -1) (by decide)) ⟨(Nat.le_of_ble_eq_true rfl), (Nat.le_of_ble_eq_true rfl)⟩ dX5_kindOfWord_28
    · have hf := gneg' h_1 hf
      refine lv_aload_n hM.fx.1 hM.fx.2.1 dX5_kindOfWord_8 rfl (lv_at hl 0 rfl) ?_
      refine lv_iload_n hM.fx.1 hM.fx.2.1 dX5_kindOfWord_9 rfl (lv_at hl 1 rfl) ?_
      obtain ⟨t_3, et_3, hf⟩ := gbd hf
      refine r_go1 hH rfl (r_runS (As := [.int (gi x1)]) hM hH cs_X5_210 (mX5_wordOf hLC hM.ns hr1 et_3) rfl hl.1 rfl (Nat.le_of_ble_eq_true rfl) ⟨(Nat.le_of_ble_eq_true rfl), (Nat.le_of_ble_eq_true rfl)⟩ ⟨(Nat.le_of_ble_eq_true rfl), (Nat.le_of_ble_eq_true rfl)⟩ dX5_kindOfWord_10) (fun hp_2 H locs hH => ?_)
      obtain ⟨x_5, ex_5, hf⟩ := gbd hf
      refine r_go1 hH rfl (r_runV (As := [gsR w t_3]) hM hH cv_X5_76 (mX5_isWord hLC hM.ns hg0 hp_2 ex_5) (hLC.in hg0 (by decide)) (by decide) rfl rfl rfl hl.1 rfl (Nat.le_of_ble_eq_true rfl) ⟨(Nat.le_of_ble_eq_true rfl), (Nat.le_of_ble_eq_true rfl)⟩ ⟨(Nat.le_of_ble_eq_true rfl), (Nat.le_of_ble_eq_true rfl)⟩ dX5_kindOfWord_13) (fun hp_4 H locs hH => ?_)
      refine r_if_eq (tgt := 21) hM.fx (gz_r hp_4) dX5_kindOfWord_16 (by decide) (fun h_6 => ?_) (fun h_6 => ?_)
      · have hf := gpos h_6 hf
        obtain ⟨x_7, ex_7, hf⟩ := gst_s hf
        have hx_7 : gRI x_7 := by rw [ex_7]; exact gwi_r _
        refine r_iinc (lv' := [(1, .int (gi x_7)), (0, .ref (w.1 + a0))]) hM.fx dX5_kindOfWord_21 hl (k := 1) rfl (by decide) (by rw [ex_7]; rfl) (fun ls hl => ?_)
        refine lv_goto (tgt := 2) hM.fx.1 hM.fx.2.1 dX5_kindOfWord_24 (by decide) ?_
        exact ih _ _ _ _ hg0 hx_7 hf _ _ _ hH (lv_sub hl [1, 0] rfl)
      · have hf := gneg' h_6 hf
        refine lv_iload_n hM.fx.1 hM.fx.2.1 dX5_kindOfWord_19 rfl (lv_at hl 1 rfl) ?_
        obtain rfl := Option.some.inj hf
        exact r_iret hM hH hr1 ⟨(Nat.le_of_ble_eq_true rfl), (Nat.le_of_ble_eq_true rfl)⟩ dX5_kindOfWord_20
def fX5_kindOfWord (g : Nat → Nat) (a0 : Nat) (M : gMem) : Option Int :=
  fX5_kindOfWord_2 g gF a0 0 M
set_option maxHeartbeats 4000000 in
set_option maxRecDepth 100000 in
theorem mX5_kindOfWord {w : gW} {n : Nat} {Rm : Nat → Nat → Nat} {g : Nat → Nat} (hLC : gLC g n Rm) {l : Launch} (hl9 : l.stackTraces = false) {a0 : Nat} {M : gMem} {r : Int} (hg0 : g a0 = 6) (hf : fX5_kindOfWord g a0 M = some r) : gMT w n Rm l yX5_kindOfWord cX5_kindOfWord 2 (some .int) 10 294 0 0 [.ref (w.1 + a0)] M (.inr (some (.int (gi r)))) M (gRI r) := by
  unfold fX5_kindOfWord at hf
  refine gMT.of hl9 (by decide +kernel) ((Nat.le_of_ble_eq_true rfl)) ?_
  intro p e s m below meth c hM hH ls hl
  have hM : gMC w p l s m ([.ref (w.1 + a0)] : List Value).toArray meth c cX5_kindOfWord 2 RX5 (some .int) := hM
  have hl : lv_has ls 2 [(0, .ref (w.1 + a0))] := hl
  refine lv_iconst (v := gi (0)) hM.fx.1 hM.fx.2.1 dX5_kindOfWord_0 rfl ?_
  refine lv_istore_n (lv' := [(1, .int (gi 0)), (0, .ref (w.1 + a0))]) hM.fx.1 hM.fx.2.1 dX5_kindOfWord_1 rfl hl (by decide) rfl (fun ls hl => ?_)
  exact wX5_kindOfWord_2 hLC hM  gF _ _ _ _ hg0 (gcR (k := 0) (by decide)) hf _ _ _ hH (lv_sub hl [1, 0] rfl)
def fX5_takeSigned_52 (g : Nat → Nat)  (as0 : Nat) (xs1 : Int) (M : gMem) : Option (Int × gMem) :=
  gst (gup M as0 10 xs1) fun M_1 => some (1, M_1)
set_option maxHeartbeats 4000000 in
set_option maxRecDepth 100000 in
theorem wX5_takeSigned_52 {w : gW} {n : Nat} {Rm : Nat → Nat → Nat} {g : Nat → Nat} (hLC : gLC g n Rm) {p : Program} {l : Launch} {e : Env} {s : State} {m : MethodId} {args : Array Value} {below : List Frame} {meth : Method} {c : Code} (hM : gMC w p l s m args meth c cX5_takeSigned 2 RX5 (some .boolean))  : ∀ (as0 : Nat) (xs1 : Int) (M : gMem) (r : (Int × gMem)) (hgs0 : g as0 = 6) (hrs1 : gRI xs1) (hf : fX5_takeSigned_52 g as0 xs1 M = some r) (H : Heap) (locs : List Loc) (ls : Array Slot) (hH : gH w n Rm M s H locs) (hl : lv_has ls 2 []), W p l e { frames := 3, cells := 0, slots := 0, locals := 104 } s m args below meth c H locs 0 0 (gQ w n Rm below args s 0 0 (.inr (some (.int (gi r.1)))) r.2 (r.1 = 0 ∨ r.1 = 1)) (F0 m 52 ls [.int (gi xs1), .ref (w.1 + as0)]) := by
  intro as0 xs1 M r hgs0 hrs1 hf H locs ls hH hl
  unfold fX5_takeSigned_52 at hf
  refine r_putI hM.fx hM.kf hH fp_X5_47 (hLC.in hgs0 (by decide)) hrs1 dX5_takeSigned_52 (fun H locs hH => ?_)
  obtain ⟨M_1, eM_1, hf⟩ := gst_s hf
  rw [← eM_1] at hH
  refine lv_iconst (v := gi (1)) hM.fx.1 hM.fx.2.1 dX5_takeSigned_55 rfl ?_
  obtain rfl := Option.some.inj hf
  exact r_zret hM hH (Or.inr rfl) (Or.inr rfl) ⟨(Nat.le_of_ble_eq_true rfl), (Nat.le_of_ble_eq_true rfl)⟩ dX5_takeSigned_56
def fX5_takeSigned_23 (g : Nat → Nat)  (a0 : Nat) (x1 : Int) (M : gMem) : Option (Int × gMem) :=
  (fX5_takeNumber g a0 0 999999 M).bind fun q_2 => if q_2.1 = 0 then (some (0, q_2.2)) else (if x1 = 0 then (fX5_takeSigned_52 g a0 (q_2.2 a0 10) q_2.2) else (fX5_takeSigned_52 g a0 (gwi (-(q_2.2 a0 10))) q_2.2))
set_option maxHeartbeats 4000000 in
set_option maxRecDepth 100000 in
theorem wX5_takeSigned_23 {w : gW} {n : Nat} {Rm : Nat → Nat → Nat} {g : Nat → Nat} (hLC : gLC g n Rm) {p : Program} {l : Launch} {e : Env} {s : State} {m : MethodId} {args : Array Value} {below : List Frame} {meth : Method} {c : Code} (hM : gMC w p l s m args meth c cX5_takeSigned 2 RX5 (some .boolean))  : ∀ (a0 : Nat) (x1 : Int) (M : gMem) (r : (Int × gMem)) (hg0 : g a0 = 6) (hr1 : gRI x1) (hf : fX5_takeSigned_23 g a0 x1 M = some r) (H : Heap) (locs : List Loc) (ls : Array Slot) (hH : gH w n Rm M s H locs) (hl : lv_has ls 2 [(0, .ref (w.1 + a0)), (1, .int (gi x1))]), W p l e { frames := 3, cells := 0, slots := 0, locals := 104 } s m args below meth c H locs 0 0 (gQ w n Rm below args s 0 0 (.inr (some (.int (gi r.1)))) r.2 (r.1 = 0 ∨ r.1 = 1)) (F0 m 23 ls []) := by
  intro a0 x1 M r hg0 hr1 hf H locs ls hH hl
  unfold fX5_takeSigned_23 at hf
  refine lv_aload_n hM.fx.1 hM.fx.2.1 dX5_takeSigned_23 rfl (lv_at hl 0 rfl) ?_
  refine lv_iconst (v := gi (0)) hM.fx.1 hM.fx.2.1 dX5_takeSigned_24 rfl ?_
  refine r_ldc (x := 999999) hM.fx gw_581 (by decide) dX5_takeSigned_25 ?_
  obtain ⟨q_2, eq_2, hf⟩ := gbd hf
  refine r_go1 hH rfl (r_runV (As := [.int (gi 0), .int (gi 999999)]) hM hH cv_X5_43 (mX5_takeNumber hLC hM.ns hg0 (gcR (k := 0) (by decide)) (gcR (k := 999999) (by decide)) eq_2) (hLC.in hg0 (by decide)) (by decide) rfl rfl rfl hl.1 rfl (Nat.le_of_ble_eq_true rfl) ⟨(Nat.le_of_ble_eq_true rfl), (Nat.le_of_ble_eq_true rfl)⟩ ⟨(Nat.le_of_ble_eq_true rfl), (Nat.le_of_ble_eq_true rfl)⟩ dX5_takeSigned_27) (fun hp_1 H locs hH => ?_)
  refine r_if_ne (tgt := 35) hM.fx (gz_r hp_1) dX5_takeSigned_30 (by decide) (fun h_3 => ?_) (fun h_3 => ?_)
  · have hf := gneg' h_3 hf
    refine lv_aload_n hM.fx.1 hM.fx.2.1 dX5_takeSigned_35 rfl (lv_at hl 0 rfl) ?_
    refine lv_iload_n hM.fx.1 hM.fx.2.1 dX5_takeSigned_36 rfl (lv_at hl 1 rfl) ?_
    refine r_if_eq (tgt := 48) hM.fx hr1 dX5_takeSigned_37 (by decide) (fun h_4 => ?_) (fun h_4 => ?_)
    · have hf := gpos h_4 hf
      refine lv_aload_n hM.fx.1 hM.fx.2.1 dX5_takeSigned_48 rfl (lv_at hl 0 rfl) ?_
      refine r_getI hM.fx hM.kf hH fl_X5_47 (hLC.in hg0 (by decide)) dX5_takeSigned_49 ?_
      have hr_5 := hH.2.2.i (hLC.in hg0 (by decide)).2.2 (by decide : glg 6 10 = false)
      exact wX5_takeSigned_52 hLC hM   _ _ _ _ hg0 hr_5 hf _ _ _ hH (lv_sub hl [] rfl)
    · have hf := gneg' h_4 hf
      refine lv_aload_n hM.fx.1 hM.fx.2.1 dX5_takeSigned_40 rfl (lv_at hl 0 rfl) ?_
      refine r_getI hM.fx hM.kf hH fl_X5_47 (hLC.in hg0 (by decide)) dX5_takeSigned_41 ?_
      have hr_6 := hH.2.2.i (hLC.in hg0 (by decide)).2.2 (by decide : glg 6 10 = false)
      refine r_ineg hM.fx dX5_takeSigned_44 ?_
      refine lv_goto (tgt := 52) hM.fx.1 hM.fx.2.1 dX5_takeSigned_45 (by decide) ?_
      exact wX5_takeSigned_52 hLC hM   _ _ _ _ hg0 (gwi_r _) hf _ _ _ hH (lv_sub hl [] rfl)
  · have hf := gpos h_3 hf
    refine lv_iconst (v := gi (0)) hM.fx.1 hM.fx.2.1 dX5_takeSigned_33 rfl ?_
    obtain rfl := Option.some.inj hf
    exact r_zret hM hH (Or.inl rfl) (Or.inl rfl) ⟨(Nat.le_of_ble_eq_true rfl), (Nat.le_of_ble_eq_true rfl)⟩ dX5_takeSigned_34
def fX5_takeSigned_14 (g : Nat → Nat)  (a0 : Nat) (xs0 : Int) (M : gMem) : Option (Int × gMem) :=
  if xs0 = 0 then (fX5_takeSigned_23 g a0 xs0 M) else ((fX5_next g a0 M).bind fun M_3 => fX5_takeSigned_23 g a0 xs0 M_3)
set_option maxHeartbeats 4000000 in
set_option maxRecDepth 100000 in
theorem wX5_takeSigned_14 {w : gW} {n : Nat} {Rm : Nat → Nat → Nat} {g : Nat → Nat} (hLC : gLC g n Rm) {p : Program} {l : Launch} {e : Env} {s : State} {m : MethodId} {args : Array Value} {below : List Frame} {meth : Method} {c : Code} (hM : gMC w p l s m args meth c cX5_takeSigned 2 RX5 (some .boolean))  : ∀ (a0 : Nat) (xs0 : Int) (M : gMem) (r : (Int × gMem)) (hg0 : g a0 = 6) (hrs0 : gRI xs0) (hf : fX5_takeSigned_14 g a0 xs0 M = some r) (H : Heap) (locs : List Loc) (ls : Array Slot) (hH : gH w n Rm M s H locs) (hl : lv_has ls 2 [(0, .ref (w.1 + a0))]), W p l e { frames := 3, cells := 0, slots := 0, locals := 104 } s m args below meth c H locs 0 0 (gQ w n Rm below args s 0 0 (.inr (some (.int (gi r.1)))) r.2 (r.1 = 0 ∨ r.1 = 1)) (F0 m 14 ls [.int (gi xs0)]) := by
  intro a0 xs0 M r hg0 hrs0 hf H locs ls hH hl
  unfold fX5_takeSigned_14 at hf
  refine lv_istore_n (lv' := [(1, .int (gi xs0)), (0, .ref (w.1 + a0))]) hM.fx.1 hM.fx.2.1 dX5_takeSigned_14 rfl hl (by decide) rfl (fun ls hl => ?_)
  refine lv_iload_n hM.fx.1 hM.fx.2.1 dX5_takeSigned_15 rfl (lv_at hl 0 rfl) ?_
  refine r_if_eq (tgt := 23) hM.fx hrs0 dX5_takeSigned_16 (by decide) (fun h_1 => ?_) (fun h_1 => ?_)
  · have hf := gpos h_1 hf
    exact wX5_takeSigned_23 hLC hM   _ _ _ _ hg0 hrs0 hf _ _ _ hH (lv_sub hl [1, 0] rfl)
  · have hf := gneg' h_1 hf
    refine lv_aload_n hM.fx.1 hM.fx.2.1 dX5_takeSigned_19 rfl (lv_at hl 1 rfl) ?_
    obtain ⟨M_3, eM_3, hf⟩ := gbd hf
    refine r_go0 hH rfl (r_runV (As := []) hM hH cv_X5_35 (mX5_next hLC hM.ns hg0 eM_3) (hLC.in hg0 (by decide)) (by decide) rfl rfl rfl hl.1 rfl (Nat.le_of_ble_eq_true rfl) ⟨(Nat.le_of_ble_eq_true rfl), (Nat.le_of_ble_eq_true rfl)⟩ ⟨(Nat.le_of_ble_eq_true rfl), (Nat.le_of_ble_eq_true rfl)⟩ dX5_takeSigned_20) (fun hp_2 H locs hH => ?_)
    exact wX5_takeSigned_23 hLC hM   _ _ _ _ hg0 hrs0 hf _ _ _ hH (lv_sub hl [1, 0] rfl)
def fX5_takeSigned (g : Nat → Nat) (a0 : Nat) (M : gMem) : Option (Int × gMem) :=
  if M a0 7 = 45 then (fX5_takeSigned_14 g a0 1 M) else (fX5_takeSigned_14 g a0 0 M)
set_option maxHeartbeats 4000000 in
set_option maxRecDepth 100000 in
theorem mX5_takeSigned {w : gW} {n : Nat} {Rm : Nat → Nat → Nat} {g : Nat → Nat} (hLC : gLC g n Rm) {l : Launch} (hl9 : l.stackTraces = false) {a0 : Nat} {M : gMem} {r : (Int × gMem)} (hg0 : g a0 = 6) (hf : fX5_takeSigned g a0 M = some r) : gMT w n Rm l yX5_takeSigned cX5_takeSigned 2 (some .boolean) 3 104 0 0 [.ref (w.1 + a0)] M (.inr (some (.int (gi r.1)))) r.2 (r.1 = 0 ∨ r.1 = 1) := by
  unfold fX5_takeSigned at hf
  refine gMT.of hl9 (by decide +kernel) ((Nat.le_of_ble_eq_true rfl)) ?_
  intro p e s m below meth c hM hH ls hl
  have hM : gMC w p l s m ([.ref (w.1 + a0)] : List Value).toArray meth c cX5_takeSigned 2 RX5 (some .boolean) := hM
  have hl : lv_has ls 2 [(0, .ref (w.1 + a0))] := hl
  refine lv_aload_n hM.fx.1 hM.fx.2.1 dX5_takeSigned_0 rfl (lv_at hl 0 rfl) ?_
  refine r_getI hM.fx hM.kf hH fl_X5_65 (hLC.in hg0 (by decide)) dX5_takeSigned_1 ?_
  have hr_1 := hH.2.2.i (hLC.in hg0 (by decide)).2.2 (by decide : glg 6 7 = false)
  refine lv_bipush (v := gi (45)) hM.fx.1 hM.fx.2.1 dX5_takeSigned_4 (by decide) ?_
  refine r_icmp_ne (tgt := 13) hM.fx hr_1 (gcR (k := 45) (by decide)) dX5_takeSigned_6 (by decide) (fun h_2 => ?_) (fun h_2 => ?_)
  · have hf := gneg' h_2 hf
    refine lv_iconst (v := gi (0)) hM.fx.1 hM.fx.2.1 dX5_takeSigned_13 rfl ?_
    exact wX5_takeSigned_14 hLC hM   _ _ _ _ hg0 (gcR (k := 0) (by decide)) hf _ _ _ hH hl
  · have hf := gpos h_2 hf
    refine lv_iconst (v := gi (1)) hM.fx.1 hM.fx.2.1 dX5_takeSigned_9 rfl ?_
    refine lv_goto (tgt := 14) hM.fx.1 hM.fx.2.1 dX5_takeSigned_10 (by decide) ?_
    exact wX5_takeSigned_14 hLC hM   _ _ _ _ hg0 (gcR (k := 1) (by decide)) hf _ _ _ hH hl
def fX6_isMove (g : Nat → Nat) (x0 : Int) : Option Int :=
  if x0 = 8 then (some 1) else (if x0 = 9 then (some 1) else (if x0 = 10 then (some 1) else (some 0)))
set_option maxHeartbeats 4000000 in
set_option maxRecDepth 100000 in
theorem mX6_isMove {w : gW} {n : Nat} {Rm : Nat → Nat → Nat} {g : Nat → Nat} (hLC : gLC g n Rm) {l : Launch} (hl9 : l.stackTraces = false) {x0 : Int} {M : gMem} {r : Int} (hr0 : gRI x0) (hf : fX6_isMove g x0 = some r) : gMT w n Rm l yX6_isMove cX6_isMove 1 (some .boolean) 1 60 0 0 [.int (gi x0)] M (.inr (some (.int (gi r)))) M (r = 0 ∨ r = 1) := by
  unfold fX6_isMove at hf
  refine gMT.of hl9 (by decide +kernel) ((Nat.le_of_ble_eq_true rfl)) ?_
  intro p e s m below meth c hM hH ls hl
  have hM : gMC w p l s m ([.int (gi x0)] : List Value).toArray meth c cX6_isMove 1 RX6 (some .boolean) := hM
  have hl : lv_has ls 1 [(0, .int (gi x0))] := hl
  refine lv_iload_n hM.fx.1 hM.fx.2.1 dX6_isMove_0 rfl (lv_at hl 0 rfl) ?_
  refine lv_bipush (v := gi (8)) hM.fx.1 hM.fx.2.1 dX6_isMove_1 (by decide) ?_
  refine r_icmp_eq (tgt := 18) hM.fx hr0 (gcR (k := 8) (by decide)) dX6_isMove_3 (by decide) (fun h_1 => ?_) (fun h_1 => ?_)
  · have hf := gpos h_1 hf
    refine lv_iconst (v := gi (1)) hM.fx.1 hM.fx.2.1 dX6_isMove_18 rfl ?_
    refine lv_goto (tgt := 23) hM.fx.1 hM.fx.2.1 dX6_isMove_19 (by decide) ?_
    obtain rfl := Option.some.inj hf
    exact r_zret hM hH (Or.inr rfl) (Or.inr rfl) ⟨(Nat.le_of_ble_eq_true rfl), (Nat.le_of_ble_eq_true rfl)⟩ dX6_isMove_23
  · have hf := gneg' h_1 hf
    refine lv_iload_n hM.fx.1 hM.fx.2.1 dX6_isMove_6 rfl (lv_at hl 0 rfl) ?_
    refine lv_bipush (v := gi (9)) hM.fx.1 hM.fx.2.1 dX6_isMove_7 (by decide) ?_
    refine r_icmp_eq (tgt := 18) hM.fx hr0 (gcR (k := 9) (by decide)) dX6_isMove_9 (by decide) (fun h_2 => ?_) (fun h_2 => ?_)
    · have hf := gpos h_2 hf
      refine lv_iconst (v := gi (1)) hM.fx.1 hM.fx.2.1 dX6_isMove_18 rfl ?_
      refine lv_goto (tgt := 23) hM.fx.1 hM.fx.2.1 dX6_isMove_19 (by decide) ?_
      obtain rfl := Option.some.inj hf
      exact r_zret hM hH (Or.inr rfl) (Or.inr rfl) ⟨(Nat.le_of_ble_eq_true rfl), (Nat.le_of_ble_eq_true rfl)⟩ dX6_isMove_23
    · have hf := gneg' h_2 hf
      refine lv_iload_n hM.fx.1 hM.fx.2.1 dX6_isMove_12 rfl (lv_at hl 0 rfl) ?_
      refine lv_bipush (v := gi (10)) hM.fx.1 hM.fx.2.1 dX6_isMove_13 (by decide) ?_
      refine r_icmp_ne (tgt := 22) hM.fx hr0 (gcR (k := 10) (by decide)) dX6_isMove_15 (by decide) (fun h_3 => ?_) (fun h_3 => ?_)
      · have hf := gneg' h_3 hf
        refine lv_iconst (v := gi (0)) hM.fx.1 hM.fx.2.1 dX6_isMove_22 rfl ?_
        obtain rfl := Option.some.inj hf
        exact r_zret hM hH (Or.inl rfl) (Or.inl rfl) ⟨(Nat.le_of_ble_eq_true rfl), (Nat.le_of_ble_eq_true rfl)⟩ dX6_isMove_23
      · have hf := gpos h_3 hf
        refine lv_iconst (v := gi (1)) hM.fx.1 hM.fx.2.1 dX6_isMove_18 rfl ?_
        refine lv_goto (tgt := 23) hM.fx.1 hM.fx.2.1 dX6_isMove_19 (by decide) ?_
        obtain rfl := Option.some.inj hf
        exact r_zret hM hH (Or.inr rfl) (Or.inr rfl) ⟨(Nat.le_of_ble_eq_true rfl), (Nat.le_of_ble_eq_true rfl)⟩ dX6_isMove_23
def fX5_readProgram_127 (g : Nat → Nat) (k2 : Nat → Nat → Int → gMem → Option (Int × gMem)) (a0 : Nat) (a1 : Nat) (x2 : Int) (x3 : Int) (M : gMem) : Option (Int × gMem) :=
  (fX4_addCommand g a1 x3 (M a0 10) M).bind fun M_3 => gst (gwi (x2 + 1)) fun x_4 => k2 a0 a1 x_4 M_3
set_option maxHeartbeats 4000000 in
set_option maxRecDepth 100000 in
theorem wX5_readProgram_127 {w : gW} {n : Nat} {Rm : Nat → Nat → Nat} {g : Nat → Nat} (hLC : gLC g n Rm) {p : Program} {l : Launch} {e : Env} {s : State} {m : MethodId} {args : Array Value} {below : List Frame} {meth : Method} {c : Code} (hM : gMC w p l s m args meth c cX5_readProgram 4 RX5 (some .boolean)) (k2 : Nat → Nat → Int → gMem → Option (Int × gMem)) (hk2 : ∀ (a0 : Nat) (a1 : Nat) (x2 : Int) (M : gMem) (r : (Int × gMem)) (hg0 : g a0 = 6) (hg1 : g a1 = 5) (hr2 : gRI x2) (hf : k2 a0 a1 x2 M = some r) (H : Heap) (locs : List Loc) (ls : Array Slot) (hH : gH w n Rm M s H locs) (hl : lv_has ls 4 [(0, .ref (w.1 + a0)), (1, .ref (w.1 + a1)), (2, .int (gi x2))]), W p l e { frames := 11, cells := 0, slots := 0, locals := 315 } s m args below meth c H locs 0 0 (gQ w n Rm below args s 0 0 (.inr (some (.int (gi r.1)))) r.2 (r.1 = 0 ∨ r.1 = 1)) (F0 m 2 ls [])) : ∀ (a0 : Nat) (a1 : Nat) (x2 : Int) (x3 : Int) (M : gMem) (r : (Int × gMem)) (hg0 : g a0 = 6) (hg1 : g a1 = 5) (hr2 : gRI x2) (hr3 : gRI x3) (hf : fX5_readProgram_127 g k2 a0 a1 x2 x3 M = some r) (H : Heap) (locs : List Loc) (ls : Array Slot) (hH : gH w n Rm M s H locs) (hl : lv_has ls 4 [(0, .ref (w.1 + a0)), (1, .ref (w.1 + a1)), (2, .int (gi x2)), (3, .int (gi x3))]), W p l e { frames := 11, cells := 0, slots := 0, locals := 315 } s m args below meth c H locs 0 0 (gQ w n Rm below args s 0 0 (.inr (some (.int (gi r.1)))) r.2 (r.1 = 0 ∨ r.1 = 1)) (F0 m 127 ls []) := by
  intro a0 a1 x2 x3 M r hg0 hg1 hr2 hr3 hf H locs ls hH hl
  unfold fX5_readProgram_127 at hf
  refine lv_aload_n hM.fx.1 hM.fx.2.1 dX5_readProgram_127 rfl (lv_at hl 1 rfl) ?_
  refine lv_iload_n hM.fx.1 hM.fx.2.1 dX5_readProgram_128 rfl (lv_at hl 3 rfl) ?_
  refine lv_aload_n hM.fx.1 hM.fx.2.1 dX5_readProgram_129 rfl (lv_at hl 0 rfl) ?_
  refine r_getI hM.fx hM.kf hH fl_X5_47 (hLC.in hg0 (by decide)) dX5_readProgram_130 ?_
  have hr_1 := hH.2.2.i (hLC.in hg0 (by decide)).2.2 (by decide : glg 6 10 = false)
  obtain ⟨M_3, eM_3, hf⟩ := gbd hf
  refine r_go0 hH rfl (r_runV (As := [.int (gi x3), .int (gi (M a0 10))]) hM hH cv_X5_143 (mX4_addCommand hLC hM.ns hg1 hr3 hr_1 eM_3) (hLC.in hg1 (by decide)) (by decide) rfl rfl rfl hl.1 rfl (Nat.le_of_ble_eq_true rfl) ⟨(Nat.le_of_ble_eq_true rfl), (Nat.le_of_ble_eq_true rfl)⟩ ⟨(Nat.le_of_ble_eq_true rfl), (Nat.le_of_ble_eq_true rfl)⟩ dX5_readProgram_133) (fun hp_2 H locs hH => ?_)
  obtain ⟨x_4, ex_4, hf⟩ := gst_s hf
  have hx_4 : gRI x_4 := by rw [ex_4]; exact gwi_r _
  refine r_iinc (lv' := [(2, .int (gi x_4)), (0, .ref (w.1 + a0)), (1, .ref (w.1 + a1)), (3, .int (gi x3))]) hM.fx dX5_readProgram_136 hl (k := 2) rfl (by decide) (by rw [ex_4]; rfl) (fun ls hl => ?_)
  refine lv_goto (tgt := 2) hM.fx.1 hM.fx.2.1 dX5_readProgram_139 (by decide) ?_
  exact hk2 _ _ _ _ _ hg0 hg1 hx_4 hf _ _ _ hH (lv_sub hl [1, 2, 0] rfl)
def fX5_readProgram_115 (g : Nat → Nat) (k2 : Nat → Nat → Int → gMem → Option (Int × gMem)) (a0 : Nat) (a1 : Nat) (x2 : Int) (x3 : Int) (M : gMem) : Option (Int × gMem) :=
  (fX5_takeNumber g a0 0 24 M).bind fun q_2 => if q_2.1 = 0 then (some (0, q_2.2)) else (fX5_readProgram_127 g k2 a0 a1 x2 x3 q_2.2)
set_option maxHeartbeats 4000000 in
set_option maxRecDepth 100000 in
theorem wX5_readProgram_115 {w : gW} {n : Nat} {Rm : Nat → Nat → Nat} {g : Nat → Nat} (hLC : gLC g n Rm) {p : Program} {l : Launch} {e : Env} {s : State} {m : MethodId} {args : Array Value} {below : List Frame} {meth : Method} {c : Code} (hM : gMC w p l s m args meth c cX5_readProgram 4 RX5 (some .boolean)) (k2 : Nat → Nat → Int → gMem → Option (Int × gMem)) (hk2 : ∀ (a0 : Nat) (a1 : Nat) (x2 : Int) (M : gMem) (r : (Int × gMem)) (hg0 : g a0 = 6) (hg1 : g a1 = 5) (hr2 : gRI x2) (hf : k2 a0 a1 x2 M = some r) (H : Heap) (locs : List Loc) (ls : Array Slot) (hH : gH w n Rm M s H locs) (hl : lv_has ls 4 [(0, .ref (w.1 + a0)), (1, .ref (w.1 + a1)), (2, .int (gi x2))]), W p l e { frames := 11, cells := 0, slots := 0, locals := 315 } s m args below meth c H locs 0 0 (gQ w n Rm below args s 0 0 (.inr (some (.int (gi r.1)))) r.2 (r.1 = 0 ∨ r.1 = 1)) (F0 m 2 ls [])) : ∀ (a0 : Nat) (a1 : Nat) (x2 : Int) (x3 : Int) (M : gMem) (r : (Int × gMem)) (hg0 : g a0 = 6) (hg1 : g a1 = 5) (hr2 : gRI x2) (hr3 : gRI x3) (hf : fX5_readProgram_115 g k2 a0 a1 x2 x3 M = some r) (H : Heap) (locs : List Loc) (ls : Array Slot) (hH : gH w n Rm M s H locs) (hl : lv_has ls 4 [(0, .ref (w.1 + a0)), (1, .ref (w.1 + a1)), (2, .int (gi x2)), (3, .int (gi x3))]), W p l e { frames := 11, cells := 0, slots := 0, locals := 315 } s m args below meth c H locs 0 0 (gQ w n Rm below args s 0 0 (.inr (some (.int (gi r.1)))) r.2 (r.1 = 0 ∨ r.1 = 1)) (F0 m 115 ls []) := by
  intro a0 a1 x2 x3 M r hg0 hg1 hr2 hr3 hf H locs ls hH hl
  unfold fX5_readProgram_115 at hf
  refine lv_aload_n hM.fx.1 hM.fx.2.1 dX5_readProgram_115 rfl (lv_at hl 0 rfl) ?_
  refine lv_iconst (v := gi (0)) hM.fx.1 hM.fx.2.1 dX5_readProgram_116 rfl ?_
  refine lv_bipush (v := gi (24)) hM.fx.1 hM.fx.2.1 dX5_readProgram_117 (by decide) ?_
  obtain ⟨q_2, eq_2, hf⟩ := gbd hf
  refine r_go1 hH rfl (r_runV (As := [.int (gi 0), .int (gi 24)]) hM hH cv_X5_43 (mX5_takeNumber hLC hM.ns hg0 (gcR (k := 0) (by decide)) (gcR (k := 24) (by decide)) eq_2) (hLC.in hg0 (by decide)) (by decide) rfl rfl rfl hl.1 rfl (Nat.le_of_ble_eq_true rfl) ⟨(Nat.le_of_ble_eq_true rfl), (Nat.le_of_ble_eq_true rfl)⟩ ⟨(Nat.le_of_ble_eq_true rfl), (Nat.le_of_ble_eq_true rfl)⟩ dX5_readProgram_119) (fun hp_1 H locs hH => ?_)
  refine r_if_ne (tgt := 127) hM.fx (gz_r hp_1) dX5_readProgram_122 (by decide) (fun h_3 => ?_) (fun h_3 => ?_)
  · have hf := gneg' h_3 hf
    exact wX5_readProgram_127 hLC hM k2 hk2  _ _ _ _ _ _ hg0 hg1 hr2 hr3 hf _ _ _ hH hl
  · have hf := gpos h_3 hf
    refine lv_iconst (v := gi (0)) hM.fx.1 hM.fx.2.1 dX5_readProgram_125 rfl ?_
    obtain rfl := Option.some.inj hf
    exact r_zret hM hH (Or.inl rfl) (Or.inl rfl) ⟨(Nat.le_of_ble_eq_true rfl), (Nat.le_of_ble_eq_true rfl)⟩ dX5_readProgram_126
def fX5_readProgram_103 (g : Nat → Nat) (k2 : Nat → Nat → Int → gMem → Option (Int × gMem)) (a0 : Nat) (a1 : Nat) (x2 : Int) (x3 : Int) (M : gMem) : Option (Int × gMem) :=
  if x3 = 11 then (fX5_readProgram_115 g k2 a0 a1 x2 x3 M) else (if x3 = 12 then (fX5_readProgram_115 g k2 a0 a1 x2 x3 M) else (fX5_readProgram_127 g k2 a0 a1 x2 x3 M))
set_option maxHeartbeats 4000000 in
set_option maxRecDepth 100000 in
theorem wX5_readProgram_103 {w : gW} {n : Nat} {Rm : Nat → Nat → Nat} {g : Nat → Nat} (hLC : gLC g n Rm) {p : Program} {l : Launch} {e : Env} {s : State} {m : MethodId} {args : Array Value} {below : List Frame} {meth : Method} {c : Code} (hM : gMC w p l s m args meth c cX5_readProgram 4 RX5 (some .boolean)) (k2 : Nat → Nat → Int → gMem → Option (Int × gMem)) (hk2 : ∀ (a0 : Nat) (a1 : Nat) (x2 : Int) (M : gMem) (r : (Int × gMem)) (hg0 : g a0 = 6) (hg1 : g a1 = 5) (hr2 : gRI x2) (hf : k2 a0 a1 x2 M = some r) (H : Heap) (locs : List Loc) (ls : Array Slot) (hH : gH w n Rm M s H locs) (hl : lv_has ls 4 [(0, .ref (w.1 + a0)), (1, .ref (w.1 + a1)), (2, .int (gi x2))]), W p l e { frames := 11, cells := 0, slots := 0, locals := 315 } s m args below meth c H locs 0 0 (gQ w n Rm below args s 0 0 (.inr (some (.int (gi r.1)))) r.2 (r.1 = 0 ∨ r.1 = 1)) (F0 m 2 ls [])) : ∀ (a0 : Nat) (a1 : Nat) (x2 : Int) (x3 : Int) (M : gMem) (r : (Int × gMem)) (hg0 : g a0 = 6) (hg1 : g a1 = 5) (hr2 : gRI x2) (hr3 : gRI x3) (hf : fX5_readProgram_103 g k2 a0 a1 x2 x3 M = some r) (H : Heap) (locs : List Loc) (ls : Array Slot) (hH : gH w n Rm M s H locs) (hl : lv_has ls 4 [(0, .ref (w.1 + a0)), (1, .ref (w.1 + a1)), (2, .int (gi x2)), (3, .int (gi x3))]), W p l e { frames := 11, cells := 0, slots := 0, locals := 315 } s m args below meth c H locs 0 0 (gQ w n Rm below args s 0 0 (.inr (some (.int (gi r.1)))) r.2 (r.1 = 0 ∨ r.1 = 1)) (F0 m 103 ls []) := by
  intro a0 a1 x2 x3 M r hg0 hg1 hr2 hr3 hf H locs ls hH hl
  unfold fX5_readProgram_103 at hf
  refine lv_iload_n hM.fx.1 hM.fx.2.1 dX5_readProgram_103 rfl (lv_at hl 3 rfl) ?_
  refine lv_bipush (v := gi (11)) hM.fx.1 hM.fx.2.1 dX5_readProgram_104 (by decide) ?_
  refine r_icmp_eq (tgt := 115) hM.fx hr3 (gcR (k := 11) (by decide)) dX5_readProgram_106 (by decide) (fun h_1 => ?_) (fun h_1 => ?_)
  · have hf := gpos h_1 hf
    exact wX5_readProgram_115 hLC hM k2 hk2  _ _ _ _ _ _ hg0 hg1 hr2 hr3 hf _ _ _ hH hl
  · have hf := gneg' h_1 hf
    refine lv_iload_n hM.fx.1 hM.fx.2.1 dX5_readProgram_109 rfl (lv_at hl 3 rfl) ?_
    refine lv_bipush (v := gi (12)) hM.fx.1 hM.fx.2.1 dX5_readProgram_110 (by decide) ?_
    refine r_icmp_ne (tgt := 127) hM.fx hr3 (gcR (k := 12) (by decide)) dX5_readProgram_112 (by decide) (fun h_2 => ?_) (fun h_2 => ?_)
    · have hf := gneg' h_2 hf
      exact wX5_readProgram_127 hLC hM k2 hk2  _ _ _ _ _ _ hg0 hg1 hr2 hr3 hf _ _ _ hH hl
    · have hf := gpos h_2 hf
      exact wX5_readProgram_115 hLC hM k2 hk2  _ _ _ _ _ _ hg0 hg1 hr2 hr3 hf _ _ _ hH hl
def fX5_readProgram_79 (g : Nat → Nat) (k2 : Nat → Nat → Int → gMem → Option (Int × gMem)) (a0 : Nat) (a1 : Nat) (x2 : Int) (x3 : Int) (M : gMem) : Option (Int × gMem) :=
  (fX6_isMove g x3).bind fun x_2 => if x_2 = 0 then (fX5_readProgram_103 g k2 a0 a1 x2 x3 M) else ((fX5_takeNumber g a0 0 (gwi (M (a0 + 2) 4 - 1)) M).bind fun q_6 => if q_6.1 = 0 then (some (0, q_6.2)) else (fX5_readProgram_103 g k2 a0 a1 x2 x3 q_6.2))
set_option maxHeartbeats 4000000 in
set_option maxRecDepth 100000 in
theorem wX5_readProgram_79 {w : gW} {n : Nat} {Rm : Nat → Nat → Nat} {g : Nat → Nat} (hLC : gLC g n Rm) {p : Program} {l : Launch} {e : Env} {s : State} {m : MethodId} {args : Array Value} {below : List Frame} {meth : Method} {c : Code} (hM : gMC w p l s m args meth c cX5_readProgram 4 RX5 (some .boolean)) (k2 : Nat → Nat → Int → gMem → Option (Int × gMem)) (hk2 : ∀ (a0 : Nat) (a1 : Nat) (x2 : Int) (M : gMem) (r : (Int × gMem)) (hg0 : g a0 = 6) (hg1 : g a1 = 5) (hr2 : gRI x2) (hf : k2 a0 a1 x2 M = some r) (H : Heap) (locs : List Loc) (ls : Array Slot) (hH : gH w n Rm M s H locs) (hl : lv_has ls 4 [(0, .ref (w.1 + a0)), (1, .ref (w.1 + a1)), (2, .int (gi x2))]), W p l e { frames := 11, cells := 0, slots := 0, locals := 315 } s m args below meth c H locs 0 0 (gQ w n Rm below args s 0 0 (.inr (some (.int (gi r.1)))) r.2 (r.1 = 0 ∨ r.1 = 1)) (F0 m 2 ls [])) : ∀ (a0 : Nat) (a1 : Nat) (x2 : Int) (x3 : Int) (M : gMem) (r : (Int × gMem)) (hg0 : g a0 = 6) (hg1 : g a1 = 5) (hr2 : gRI x2) (hr3 : gRI x3) (hf : fX5_readProgram_79 g k2 a0 a1 x2 x3 M = some r) (H : Heap) (locs : List Loc) (ls : Array Slot) (hH : gH w n Rm M s H locs) (hl : lv_has ls 4 [(0, .ref (w.1 + a0)), (1, .ref (w.1 + a1)), (2, .int (gi x2)), (3, .int (gi x3))]), W p l e { frames := 11, cells := 0, slots := 0, locals := 315 } s m args below meth c H locs 0 0 (gQ w n Rm below args s 0 0 (.inr (some (.int (gi r.1)))) r.2 (r.1 = 0 ∨ r.1 = 1)) (F0 m 79 ls []) := by
  intro a0 a1 x2 x3 M r hg0 hg1 hr2 hr3 hf H locs ls hH hl
  unfold fX5_readProgram_79 at hf
  refine lv_iload_n hM.fx.1 hM.fx.2.1 dX5_readProgram_79 rfl (lv_at hl 3 rfl) ?_
  obtain ⟨x_2, ex_2, hf⟩ := gbd hf
  refine r_go1 hH rfl (r_runS (As := [.int (gi x3)]) hM hH cs_X5_138 (mX6_isMove hLC hM.ns hr3 ex_2) rfl hl.1 rfl (Nat.le_of_ble_eq_true rfl) ⟨(Nat.le_of_ble_eq_true rfl), (Nat.le_of_ble_eq_true rfl)⟩ ⟨(Nat.le_of_ble_eq_true rfl), (Nat.le_of_ble_eq_true rfl)⟩ dX5_readProgram_80) (fun hp_1 H locs hH => ?_)
  refine r_if_eq (tgt := 103) hM.fx (gz_r hp_1) dX5_readProgram_83 (by decide) (fun h_3 => ?_) (fun h_3 => ?_)
  · have hf := gpos h_3 hf
    exact wX5_readProgram_103 hLC hM k2 hk2  _ _ _ _ _ _ hg0 hg1 hr2 hr3 hf _ _ _ hH hl
  · have hf := gneg' h_3 hf
    refine lv_aload_n hM.fx.1 hM.fx.2.1 dX5_readProgram_86 rfl (lv_at hl 0 rfl) ?_
    refine lv_iconst (v := gi (0)) hM.fx.1 hM.fx.2.1 dX5_readProgram_87 rfl ?_
    refine lv_aload_n hM.fx.1 hM.fx.2.1 dX5_readProgram_88 rfl (lv_at hl 0 rfl) ?_
    refine r_getR hM.fx hM.kf hH hLC fl_X5_18 hg0 gch_6_1 dX5_readProgram_89 ?_
    refine r_getI hM.fx hM.kf hH fl_X5_120 (hLC.in (hLC.ch hg0 (by decide) gch_6_1) (by decide)) dX5_readProgram_92 ?_
    have hr_4 := hH.2.2.i (hLC.in (hLC.ch hg0 (by decide) gch_6_1) (by decide)).2.2 (by decide : glg 1 4 = false)
    refine lv_iconst (v := gi (1)) hM.fx.1 hM.fx.2.1 dX5_readProgram_95 rfl ?_
    refine r_isub hM.fx dX5_readProgram_96 ?_
    obtain ⟨q_6, eq_6, hf⟩ := gbd hf
    refine r_go1 hH rfl (r_runV (As := [.int (gi 0), .int (gi (gwi (M (a0 + 2) 4 - 1)))]) hM hH cv_X5_43 (mX5_takeNumber hLC hM.ns hg0 (gcR (k := 0) (by decide)) (gwi_r _) eq_6) (hLC.in hg0 (by decide)) (by decide) rfl rfl rfl hl.1 rfl (Nat.le_of_ble_eq_true rfl) ⟨(Nat.le_of_ble_eq_true rfl), (Nat.le_of_ble_eq_true rfl)⟩ ⟨(Nat.le_of_ble_eq_true rfl), (Nat.le_of_ble_eq_true rfl)⟩ dX5_readProgram_97) (fun hp_5 H locs hH => ?_)
    refine r_if_eq (tgt := 125) hM.fx (gz_r hp_5) dX5_readProgram_100 (by decide) (fun h_7 => ?_) (fun h_7 => ?_)
    · have hf := gpos h_7 hf
      refine lv_iconst (v := gi (0)) hM.fx.1 hM.fx.2.1 dX5_readProgram_125 rfl ?_
      obtain rfl := Option.some.inj hf
      exact r_zret hM hH (Or.inl rfl) (Or.inl rfl) ⟨(Nat.le_of_ble_eq_true rfl), (Nat.le_of_ble_eq_true rfl)⟩ dX5_readProgram_126
    · have hf := gneg' h_7 hf
      exact wX5_readProgram_103 hLC hM k2 hk2  _ _ _ _ _ _ hg0 hg1 hr2 hr3 hf _ _ _ hH hl
def fX5_readProgram_2 (g : Nat → Nat)  : Nat → Nat → Nat → Int → gMem → Option (Int × gMem)
  | 0, _, _, _, _ => none
  | fu + 1, a0, a1, x2, M => if 600 ≤ x2 then (some (1, M)) else (if M a0 7 = 59 then (some (1, M)) else ((fX5_kindOfWord g a0 M).bind fun x_5 => if x_5 = (-1) then ((fX5_fails g a0 ((-2)) (M a0 6) M).bind fun q_21 => some (q_21.1, q_21.2)) else (if M a1 4 < 24 then ((fX5_next g a0 M).bind fun M_10 => gst (gup M_10 a0 10 0) fun M_11 => if x_5 = 0 then ((fX5_takeSigned g a0 M_11).bind fun q_14 => if q_14.1 = 0 then (some (0, q_14.2)) else (fX5_readProgram_79 g (fX5_readProgram_2 g fu) a0 a1 x2 x_5 q_14.2)) else (fX5_readProgram_79 g (fX5_readProgram_2 g fu) a0 a1 x2 x_5 M_11)) else ((fX5_fails g a0 ((-6)) (M a0 6) M).bind fun q_18 => some (q_18.1, q_18.2)))))
set_option maxHeartbeats 4000000 in
set_option maxRecDepth 100000 in
theorem wX5_readProgram_2 {w : gW} {n : Nat} {Rm : Nat → Nat → Nat} {g : Nat → Nat} (hLC : gLC g n Rm) {p : Program} {l : Launch} {e : Env} {s : State} {m : MethodId} {args : Array Value} {below : List Frame} {meth : Method} {c : Code} (hM : gMC w p l s m args meth c cX5_readProgram 4 RX5 (some .boolean))  : ∀ (fu : Nat), ∀ (a0 : Nat) (a1 : Nat) (x2 : Int) (M : gMem) (r : (Int × gMem)) (hg0 : g a0 = 6) (hg1 : g a1 = 5) (hr2 : gRI x2) (hf : fX5_readProgram_2 g fu a0 a1 x2 M = some r) (H : Heap) (locs : List Loc) (ls : Array Slot) (hH : gH w n Rm M s H locs) (hl : lv_has ls 4 [(0, .ref (w.1 + a0)), (1, .ref (w.1 + a1)), (2, .int (gi x2))]), W p l e { frames := 11, cells := 0, slots := 0, locals := 315 } s m args below meth c H locs 0 0 (gQ w n Rm below args s 0 0 (.inr (some (.int (gi r.1)))) r.2 (r.1 = 0 ∨ r.1 = 1)) (F0 m 2 ls []) := by
  intro fu
  induction fu with
  | zero =>
    intro a0 a1 x2 M r hg0 hg1 hr2 hf H locs ls hH hl
    exact absurd hf (by simp [fX5_readProgram_2])
  | succ fu ih =>
    intro a0 a1 x2 M r hg0 hg1 hr2 hf H locs ls hH hl
    unfold fX5_readProgram_2 at hf
    refine lv_iload_n hM.fx.1 hM.fx.2.1 dX5_readProgram_2 rfl (lv_at hl 2 rfl) ?_
    refine lv_sipush (v := gi (600)) hM.fx.1 hM.fx.2.1 dX5_readProgram_3 (by decide) ?_
    refine r_icmp_ge (tgt := 142) hM.fx hr2 (gcR (k := 600) (by decide)) dX5_readProgram_6 (by decide) (fun h_1 => ?_) (fun h_1 => ?_)
    · have hf := gpos h_1 hf
      refine lv_iconst (v := gi (1)) hM.fx.1 hM.fx.2.1 dX5_readProgram_142 rfl ?_
      obtain rfl := Option.some.inj hf
      exact r_zret hM hH (Or.inr rfl) (Or.inr rfl) ⟨(Nat.le_of_ble_eq_true rfl), (Nat.le_of_ble_eq_true rfl)⟩ dX5_readProgram_143
    · have hf := gneg' h_1 hf
      refine lv_aload_n hM.fx.1 hM.fx.2.1 dX5_readProgram_9 rfl (lv_at hl 0 rfl) ?_
      refine r_getI hM.fx hM.kf hH fl_X5_65 (hLC.in hg0 (by decide)) dX5_readProgram_10 ?_
      have hr_2 := hH.2.2.i (hLC.in hg0 (by decide)).2.2 (by decide : glg 6 7 = false)
      refine lv_bipush (v := gi (59)) hM.fx.1 hM.fx.2.1 dX5_readProgram_13 (by decide) ?_
      refine r_icmp_eq (tgt := 142) hM.fx hr_2 (gcR (k := 59) (by decide)) dX5_readProgram_15 (by decide) (fun h_3 => ?_) (fun h_3 => ?_)
      · have hf := gpos h_3 hf
        refine lv_iconst (v := gi (1)) hM.fx.1 hM.fx.2.1 dX5_readProgram_142 rfl ?_
        obtain rfl := Option.some.inj hf
        exact r_zret hM hH (Or.inr rfl) (Or.inr rfl) ⟨(Nat.le_of_ble_eq_true rfl), (Nat.le_of_ble_eq_true rfl)⟩ dX5_readProgram_143
      · have hf := gneg' h_3 hf
        refine lv_aload_n hM.fx.1 hM.fx.2.1 dX5_readProgram_18 rfl (lv_at hl 0 rfl) ?_
        obtain ⟨x_5, ex_5, hf⟩ := gbd hf
        refine r_go1 hH rfl (r_runV (As := []) hM hH cv_X5_128 (mX5_kindOfWord hLC hM.ns hg0 ex_5) (hLC.in hg0 (by decide)) (by decide) rfl rfl rfl hl.1 rfl (Nat.le_of_ble_eq_true rfl) ⟨(Nat.le_of_ble_eq_true rfl), (Nat.le_of_ble_eq_true rfl)⟩ ⟨(Nat.le_of_ble_eq_true rfl), (Nat.le_of_ble_eq_true rfl)⟩ dX5_readProgram_19) (fun hp_4 H locs hH => ?_)
        refine lv_istore_n (lv' := [(3, .int (gi x_5)), (0, .ref (w.1 + a0)), (1, .ref (w.1 + a1)), (2, .int (gi x2))]) hM.fx.1 hM.fx.2.1 dX5_readProgram_22 rfl hl (by decide) rfl (fun ls hl => ?_)
        refine lv_iload_n hM.fx.1 hM.fx.2.1 dX5_readProgram_23 rfl (lv_at hl 0 rfl) ?_
        refine lv_iconst (v := gi (-1)) hM.fx.1 hM.fx.2.1 dX5_readProgram_24 rfl ?_
        refine r_icmp_ne (tgt := 39) hM.fx hp_4 (gcR (k := -1) (by decide)) dX5_readProgram_25 (by decide) (fun h_6 => ?_) (fun h_6 => ?_)
        · have hf := gneg' h_6 hf
          refine lv_aload_n hM.fx.1 hM.fx.2.1 dX5_readProgram_39 rfl (lv_at hl 2 rfl) ?_
          refine r_getI hM.fx hM.kf hH fl_X5_132 (hLC.in hg1 (by decide)) dX5_readProgram_40 ?_
          have hr_7 := hH.2.2.i (hLC.in hg1 (by decide)).2.2 (by decide : glg 5 4 = false)
          refine lv_bipush (v := gi (24)) hM.fx.1 hM.fx.2.1 dX5_readProgram_43 (by decide) ?_
          refine r_icmp_lt (tgt := 59) hM.fx hr_7 (gcR (k := 24) (by decide)) dX5_readProgram_45 (by decide) (fun h_8 => ?_) (fun h_8 => ?_)
          · have hf := gpos h_8 hf
            refine lv_aload_n hM.fx.1 hM.fx.2.1 dX5_readProgram_59 rfl (lv_at hl 1 rfl) ?_
            obtain ⟨M_10, eM_10, hf⟩ := gbd hf
            refine r_go0 hH rfl (r_runV (As := []) hM hH cv_X5_35 (mX5_next hLC hM.ns hg0 eM_10) (hLC.in hg0 (by decide)) (by decide) rfl rfl rfl hl.1 rfl (Nat.le_of_ble_eq_true rfl) ⟨(Nat.le_of_ble_eq_true rfl), (Nat.le_of_ble_eq_true rfl)⟩ ⟨(Nat.le_of_ble_eq_true rfl), (Nat.le_of_ble_eq_true rfl)⟩ dX5_readProgram_60) (fun hp_9 H locs hH => ?_)
            refine lv_aload_n hM.fx.1 hM.fx.2.1 dX5_readProgram_63 rfl (lv_at hl 1 rfl) ?_
            refine lv_iconst (v := gi (0)) hM.fx.1 hM.fx.2.1 dX5_readProgram_64 rfl ?_
            refine r_putI hM.fx hM.kf hH fp_X5_47 (hLC.in hg0 (by decide)) (gcR (k := 0) (by decide)) dX5_readProgram_65 (fun H locs hH => ?_)
            obtain ⟨M_11, eM_11, hf⟩ := gst_s hf
            rw [← eM_11] at hH
            refine lv_iload_n hM.fx.1 hM.fx.2.1 dX5_readProgram_68 rfl (lv_at hl 0 rfl) ?_
            refine r_if_ne (tgt := 79) hM.fx hp_4 dX5_readProgram_69 (by decide) (fun h_12 => ?_) (fun h_12 => ?_)
            · have hf := gneg' h_12 hf
              exact wX5_readProgram_79 hLC hM (fX5_readProgram_2 g fu) ih  _ _ _ _ _ _ hg0 hg1 hr2 hp_4 hf _ _ _ hH (lv_sub hl [1, 2, 3, 0] rfl)
            · have hf := gpos h_12 hf
              refine lv_aload_n hM.fx.1 hM.fx.2.1 dX5_readProgram_72 rfl (lv_at hl 1 rfl) ?_
              obtain ⟨q_14, eq_14, hf⟩ := gbd hf
              refine r_go1 hH rfl (r_runV (As := []) hM hH cv_X5_135 (mX5_takeSigned hLC hM.ns hg0 eq_14) (hLC.in hg0 (by decide)) (by decide) rfl rfl rfl hl.1 rfl (Nat.le_of_ble_eq_true rfl) ⟨(Nat.le_of_ble_eq_true rfl), (Nat.le_of_ble_eq_true rfl)⟩ ⟨(Nat.le_of_ble_eq_true rfl), (Nat.le_of_ble_eq_true rfl)⟩ dX5_readProgram_73) (fun hp_13 H locs hH => ?_)
              refine r_if_eq (tgt := 125) hM.fx (gz_r hp_13) dX5_readProgram_76 (by decide) (fun h_15 => ?_) (fun h_15 => ?_)
              · have hf := gpos h_15 hf
                refine lv_iconst (v := gi (0)) hM.fx.1 hM.fx.2.1 dX5_readProgram_125 rfl ?_
                obtain rfl := Option.some.inj hf
                exact r_zret hM hH (Or.inl rfl) (Or.inl rfl) ⟨(Nat.le_of_ble_eq_true rfl), (Nat.le_of_ble_eq_true rfl)⟩ dX5_readProgram_126
              · have hf := gneg' h_15 hf
                exact wX5_readProgram_79 hLC hM (fX5_readProgram_2 g fu) ih  _ _ _ _ _ _ hg0 hg1 hr2 hp_4 hf _ _ _ hH (lv_sub hl [1, 2, 3, 0] rfl)
          · have hf := gneg' h_8 hf
            refine lv_aload_n hM.fx.1 hM.fx.2.1 dX5_readProgram_48 rfl (lv_at hl 1 rfl) ?_
            refine lv_bipush (v := gi (-6)) hM.fx.1 hM.fx.2.1 dX5_readProgram_49 (by decide) ?_
            refine lv_aload_n hM.fx.1 hM.fx.2.1 dX5_readProgram_51 rfl (lv_at hl 1 rfl) ?_
            refine r_getI hM.fx hM.kf hH fl_X5_68 (hLC.in hg0 (by decide)) dX5_readProgram_52 ?_
            have hr_16 := hH.2.2.i (hLC.in hg0 (by decide)).2.2 (by decide : glg 6 6 = false)
            obtain ⟨q_18, eq_18, hf⟩ := gbd hf
            refine r_go1 hH rfl (r_runV (As := [.int (gi ((-6))), .int (gi (M a0 6))]) hM hH cv_X5_71 (mX5_fails hLC hM.ns hg0 (gcR (k := -6) (by decide)) hr_16 eq_18) (hLC.in hg0 (by decide)) (by decide) rfl rfl rfl hl.1 rfl (Nat.le_of_ble_eq_true rfl) ⟨(Nat.le_of_ble_eq_true rfl), (Nat.le_of_ble_eq_true rfl)⟩ ⟨(Nat.le_of_ble_eq_true rfl), (Nat.le_of_ble_eq_true rfl)⟩ dX5_readProgram_55) (fun hp_17 H locs hH => ?_)
            obtain rfl := Option.some.inj hf
            exact r_zret hM hH hp_17 hp_17 ⟨(Nat.le_of_ble_eq_true rfl), (Nat.le_of_ble_eq_true rfl)⟩ dX5_readProgram_58
        · have hf := gpos h_6 hf
          refine lv_aload_n hM.fx.1 hM.fx.2.1 dX5_readProgram_28 rfl (lv_at hl 1 rfl) ?_
          refine lv_bipush (v := gi (-2)) hM.fx.1 hM.fx.2.1 dX5_readProgram_29 (by decide) ?_
          refine lv_aload_n hM.fx.1 hM.fx.2.1 dX5_readProgram_31 rfl (lv_at hl 1 rfl) ?_
          refine r_getI hM.fx hM.kf hH fl_X5_68 (hLC.in hg0 (by decide)) dX5_readProgram_32 ?_
          have hr_19 := hH.2.2.i (hLC.in hg0 (by decide)).2.2 (by decide : glg 6 6 = false)
          obtain ⟨q_21, eq_21, hf⟩ := gbd hf
          refine r_go1 hH rfl (r_runV (As := [.int (gi ((-2))), .int (gi (M a0 6))]) hM hH cv_X5_71 (mX5_fails hLC hM.ns hg0 (gcR (k := -2) (by decide)) hr_19 eq_21) (hLC.in hg0 (by decide)) (by decide) rfl rfl rfl hl.1 rfl (Nat.le_of_ble_eq_true rfl) ⟨(Nat.le_of_ble_eq_true rfl), (Nat.le_of_ble_eq_true rfl)⟩ ⟨(Nat.le_of_ble_eq_true rfl), (Nat.le_of_ble_eq_true rfl)⟩ dX5_readProgram_35) (fun hp_20 H locs hH => ?_)
          obtain rfl := Option.some.inj hf
          exact r_zret hM hH hp_20 hp_20 ⟨(Nat.le_of_ble_eq_true rfl), (Nat.le_of_ble_eq_true rfl)⟩ dX5_readProgram_38
def fX5_readProgram (g : Nat → Nat) (a0 : Nat) (a1 : Nat) (M : gMem) : Option (Int × gMem) :=
  fX5_readProgram_2 g gF a0 a1 0 M
set_option maxHeartbeats 4000000 in
set_option maxRecDepth 100000 in
theorem mX5_readProgram {w : gW} {n : Nat} {Rm : Nat → Nat → Nat} {g : Nat → Nat} (hLC : gLC g n Rm) {l : Launch} (hl9 : l.stackTraces = false) {a0 : Nat} {a1 : Nat} {M : gMem} {r : (Int × gMem)} (hg0 : g a0 = 6) (hg1 : g a1 = 5) (hf : fX5_readProgram g a0 a1 M = some r) : gMT w n Rm l yX5_readProgram cX5_readProgram 4 (some .boolean) 11 315 0 0 [.ref (w.1 + a0), .ref (w.1 + a1)] M (.inr (some (.int (gi r.1)))) r.2 (r.1 = 0 ∨ r.1 = 1) := by
  unfold fX5_readProgram at hf
  refine gMT.of hl9 (by decide +kernel) ((Nat.le_of_ble_eq_true rfl)) ?_
  intro p e s m below meth c hM hH ls hl
  have hM : gMC w p l s m ([.ref (w.1 + a0), .ref (w.1 + a1)] : List Value).toArray meth c cX5_readProgram 4 RX5 (some .boolean) := hM
  have hl : lv_has ls 4 [(0, .ref (w.1 + a0)), (1, .ref (w.1 + a1))] := hl
  refine lv_iconst (v := gi (0)) hM.fx.1 hM.fx.2.1 dX5_readProgram_0 rfl ?_
  refine lv_istore_n (lv' := [(2, .int (gi 0)), (0, .ref (w.1 + a0)), (1, .ref (w.1 + a1))]) hM.fx.1 hM.fx.2.1 dX5_readProgram_1 rfl hl (by decide) rfl (fun ls hl => ?_)
  exact wX5_readProgram_2 hLC hM  gF _ _ _ _ _ hg0 hg1 (gcR (k := 0) (by decide)) hf _ _ _ hH (lv_sub hl [1, 2, 0] rfl)
def fX5_readProcesses_22 (g : Nat → Nat) (k2 : Nat → Int → gMem → Option (Int × gMem)) (a0 : Nat) (x1 : Int) (M : gMem) : Option (Int × gMem) :=
  if M (a0 + 2) 5 < 8 then ((fX5_takeWord g a0 1 M).bind fun q_4 => if q_4.1 = 0 then (some (0, q_4.2)) else ((fX5_readName g a0 q_4.2).bind fun q_7 => if q_7.1 = 0 then (some (0, q_7.2)) else ((fX5_readTurnLength g a0 q_7.1 q_7.2).bind fun q_10 => if q_10.1 = 0 then (some (0, q_10.2)) else ((fX5_readMay g a0 q_7.1 q_10.2).bind fun q_13 => if q_13.1 = 0 then (some (0, q_13.2)) else ((fX5_takeSign g a0 58 q_13.2).bind fun q_16 => if q_16.1 = 0 then (some (0, q_16.2)) else ((fX5_readProgram g a0 q_7.1 q_16.2).bind fun q_19 => if q_19.1 = 0 then (some (0, q_19.2)) else ((fX5_takeSign g a0 59 q_19.2).bind fun q_22 => if q_22.1 = 0 then (some (0, q_22.2)) else (gst (gwi (x1 + 1)) fun x_24 => k2 a0 x_24 q_22.2)))))))) else ((fX5_fails g a0 ((-6)) (M a0 6) M).bind fun q_27 => some (q_27.1, q_27.2))
set_option maxHeartbeats 4000000 in
set_option maxRecDepth 100000 in
theorem wX5_readProcesses_22 {w : gW} {n : Nat} {Rm : Nat → Nat → Nat} {g : Nat → Nat} (hLC : gLC g n Rm) {p : Program} {l : Launch} {e : Env} {s : State} {m : MethodId} {args : Array Value} {below : List Frame} {meth : Method} {c : Code} (hM : gMC w p l s m args meth c cX5_readProcesses 3 RX5 (some .boolean)) (k2 : Nat → Int → gMem → Option (Int × gMem)) (hk2 : ∀ (a0 : Nat) (x1 : Int) (M : gMem) (r : (Int × gMem)) (hg0 : g a0 = 6) (hr1 : gRI x1) (hf : k2 a0 x1 M = some r) (H : Heap) (locs : List Loc) (ls : Array Slot) (hH : gH w n Rm M s H locs) (hl : lv_has ls 3 [(0, .ref (w.1 + a0)), (1, .int (gi x1))]), W p l e { frames := 12, cells := 0, slots := 0, locals := 338 } s m args below meth c H locs 0 0 (gQ w n Rm below args s 0 0 (.inr (some (.int (gi r.1)))) r.2 (r.1 = 0 ∨ r.1 = 1)) (F0 m 2 ls [])) : ∀ (a0 : Nat) (x1 : Int) (M : gMem) (r : (Int × gMem)) (hg0 : g a0 = 6) (hr1 : gRI x1) (hf : fX5_readProcesses_22 g k2 a0 x1 M = some r) (H : Heap) (locs : List Loc) (ls : Array Slot) (hH : gH w n Rm M s H locs) (hl : lv_has ls 3 [(0, .ref (w.1 + a0)), (1, .int (gi x1))]), W p l e { frames := 12, cells := 0, slots := 0, locals := 338 } s m args below meth c H locs 0 0 (gQ w n Rm below args s 0 0 (.inr (some (.int (gi r.1)))) r.2 (r.1 = 0 ∨ r.1 = 1)) (F0 m 22 ls []) := by
  intro a0 x1 M r hg0 hr1 hf H locs ls hH hl
  unfold fX5_readProcesses_22 at hf
  refine lv_aload_n hM.fx.1 hM.fx.2.1 dX5_readProcesses_22 rfl (lv_at hl 0 rfl) ?_
  refine r_getR hM.fx hM.kf hH hLC fl_X5_18 hg0 gch_6_1 dX5_readProcesses_23 ?_
  refine r_getI hM.fx hM.kf hH fl_X5_79 (hLC.in (hLC.ch hg0 (by decide) gch_6_1) (by decide)) dX5_readProcesses_26 ?_
  have hr_1 := hH.2.2.i (hLC.in (hLC.ch hg0 (by decide) gch_6_1) (by decide)).2.2 (by decide : glg 1 5 = false)
  refine lv_bipush (v := gi (8)) hM.fx.1 hM.fx.2.1 dX5_readProcesses_29 (by decide) ?_
  refine r_icmp_lt (tgt := 45) hM.fx hr_1 (gcR (k := 8) (by decide)) dX5_readProcesses_31 (by decide) (fun h_2 => ?_) (fun h_2 => ?_)
  · have hf := gpos h_2 hf
    refine lv_aload_n hM.fx.1 hM.fx.2.1 dX5_readProcesses_45 rfl (lv_at hl 0 rfl) ?_
    refine r_ldcS (tx := "process") hM.fx hM.kf 1 rfl dX5_readProcesses_46 ?_
    obtain ⟨q_4, eq_4, hf⟩ := gbd hf
    refine r_go1 hH rfl (r_runV (As := [gsR w 1]) hM hH cv_X5_39 (mX5_takeWord hLC hM.ns hg0 (by decide : gtx 1 ≠ []) eq_4) (hLC.in hg0 (by decide)) (by decide) rfl rfl rfl hl.1 rfl (Nat.le_of_ble_eq_true rfl) ⟨(Nat.le_of_ble_eq_true rfl), (Nat.le_of_ble_eq_true rfl)⟩ ⟨(Nat.le_of_ble_eq_true rfl), (Nat.le_of_ble_eq_true rfl)⟩ dX5_readProcesses_48) (fun hp_3 H locs hH => ?_)
    refine r_if_ne (tgt := 56) hM.fx (gz_r hp_3) dX5_readProcesses_51 (by decide) (fun h_5 => ?_) (fun h_5 => ?_)
    · have hf := gneg' h_5 hf
      refine lv_aload_n hM.fx.1 hM.fx.2.1 dX5_readProcesses_56 rfl (lv_at hl 0 rfl) ?_
      obtain ⟨q_7, eq_7, hf⟩ := gbd hf
      refine r_go1 hH rfl (r_runV (As := []) hM hH cv_X5_82 (mX5_readName hLC hM.ns hg0 eq_7) (hLC.in hg0 (by decide)) (by decide) rfl rfl rfl hl.1 rfl (Nat.le_of_ble_eq_true rfl) ⟨(Nat.le_of_ble_eq_true rfl), (Nat.le_of_ble_eq_true rfl)⟩ ⟨(Nat.le_of_ble_eq_true rfl), (Nat.le_of_ble_eq_true rfl)⟩ dX5_readProcesses_57) (fun hp_6 H locs hH => ?_)
      refine r_astore_nV (lv' := [(2, gvR w q_7.1), (0, .ref (w.1 + a0)), (1, .int (gi x1))]) hM.fx dX5_readProcesses_60 rfl hl (by decide) rfl (fun ls hl => ?_)
      refine r_aload_nV hM.fx dX5_readProcesses_61 rfl (lv_at hl 0 rfl) ?_
      refine r_ifnull (tgt := 107) hM.fx dX5_readProcesses_62 (by decide) (fun h_8 => ?_) (fun h_8 => ?_)
      · have hf := gpos h_8 hf
        refine lv_iconst (v := gi (0)) hM.fx.1 hM.fx.2.1 dX5_readProcesses_107 rfl ?_
        obtain rfl := Option.some.inj hf
        exact r_zret hM hH (Or.inl rfl) (Or.inl rfl) ⟨(Nat.le_of_ble_eq_true rfl), (Nat.le_of_ble_eq_true rfl)⟩ dX5_readProcesses_108
      · have hf := gneg' h_8 hf
        rw [gvR_nn h_8] at hl
        refine lv_aload_n hM.fx.1 hM.fx.2.1 dX5_readProcesses_65 rfl (lv_at hl 1 rfl) ?_
        refine lv_aload_n hM.fx.1 hM.fx.2.1 dX5_readProcesses_66 rfl (lv_at hl 0 rfl) ?_
        obtain ⟨q_10, eq_10, hf⟩ := gbd hf
        refine r_go1 hH rfl (r_runV (As := [.ref (w.1 + q_7.1)]) hM hH cv_X5_86 (mX5_readTurnLength hLC hM.ns hg0 (hp_6 h_8) eq_10) (hLC.in hg0 (by decide)) (by decide) rfl rfl rfl hl.1 rfl (Nat.le_of_ble_eq_true rfl) ⟨(Nat.le_of_ble_eq_true rfl), (Nat.le_of_ble_eq_true rfl)⟩ ⟨(Nat.le_of_ble_eq_true rfl), (Nat.le_of_ble_eq_true rfl)⟩ dX5_readProcesses_67) (fun hp_9 H locs hH => ?_)
        refine r_if_eq (tgt := 107) hM.fx (gz_r hp_9) dX5_readProcesses_70 (by decide) (fun h_11 => ?_) (fun h_11 => ?_)
        · have hf := gpos h_11 hf
          refine lv_iconst (v := gi (0)) hM.fx.1 hM.fx.2.1 dX5_readProcesses_107 rfl ?_
          obtain rfl := Option.some.inj hf
          exact r_zret hM hH (Or.inl rfl) (Or.inl rfl) ⟨(Nat.le_of_ble_eq_true rfl), (Nat.le_of_ble_eq_true rfl)⟩ dX5_readProcesses_108
        · have hf := gneg' h_11 hf
          refine lv_aload_n hM.fx.1 hM.fx.2.1 dX5_readProcesses_73 rfl (lv_at hl 1 rfl) ?_
          refine lv_aload_n hM.fx.1 hM.fx.2.1 dX5_readProcesses_74 rfl (lv_at hl 0 rfl) ?_
          obtain ⟨q_13, eq_13, hf⟩ := gbd hf
          refine r_go1 hH rfl (r_runV (As := [.ref (w.1 + q_7.1)]) hM hH cv_X5_90 (mX5_readMay hLC hM.ns hg0 (hp_6 h_8) eq_13) (hLC.in hg0 (by decide)) (by decide) rfl rfl rfl hl.1 rfl (Nat.le_of_ble_eq_true rfl) ⟨(Nat.le_of_ble_eq_true rfl), (Nat.le_of_ble_eq_true rfl)⟩ ⟨(Nat.le_of_ble_eq_true rfl), (Nat.le_of_ble_eq_true rfl)⟩ dX5_readProcesses_75) (fun hp_12 H locs hH => ?_)
          refine r_if_eq (tgt := 107) hM.fx (gz_r hp_12) dX5_readProcesses_78 (by decide) (fun h_14 => ?_) (fun h_14 => ?_)
          · have hf := gpos h_14 hf
            refine lv_iconst (v := gi (0)) hM.fx.1 hM.fx.2.1 dX5_readProcesses_107 rfl ?_
            obtain rfl := Option.some.inj hf
            exact r_zret hM hH (Or.inl rfl) (Or.inl rfl) ⟨(Nat.le_of_ble_eq_true rfl), (Nat.le_of_ble_eq_true rfl)⟩ dX5_readProcesses_108
          · have hf := gneg' h_14 hf
            refine lv_aload_n hM.fx.1 hM.fx.2.1 dX5_readProcesses_81 rfl (lv_at hl 1 rfl) ?_
            refine lv_bipush (v := gi (58)) hM.fx.1 hM.fx.2.1 dX5_readProcesses_82 (by decide) ?_
            obtain ⟨q_16, eq_16, hf⟩ := gbd hf
            refine r_go1 hH rfl (r_runV (As := [.int (gi 58)]) hM hH cv_X5_54 (mX5_takeSign hLC hM.ns hg0 (gcR (k := 58) (by decide)) eq_16) (hLC.in hg0 (by decide)) (by decide) rfl rfl rfl hl.1 rfl (Nat.le_of_ble_eq_true rfl) ⟨(Nat.le_of_ble_eq_true rfl), (Nat.le_of_ble_eq_true rfl)⟩ ⟨(Nat.le_of_ble_eq_true rfl), (Nat.le_of_ble_eq_true rfl)⟩ dX5_readProcesses_84) (fun hp_15 H locs hH => ?_)
            refine r_if_eq (tgt := 107) hM.fx (gz_r hp_15) dX5_readProcesses_87 (by decide) (fun h_17 => ?_) (fun h_17 => ?_)
            · have hf := gpos h_17 hf
              refine lv_iconst (v := gi (0)) hM.fx.1 hM.fx.2.1 dX5_readProcesses_107 rfl ?_
              obtain rfl := Option.some.inj hf
              exact r_zret hM hH (Or.inl rfl) (Or.inl rfl) ⟨(Nat.le_of_ble_eq_true rfl), (Nat.le_of_ble_eq_true rfl)⟩ dX5_readProcesses_108
            · have hf := gneg' h_17 hf
              refine lv_aload_n hM.fx.1 hM.fx.2.1 dX5_readProcesses_90 rfl (lv_at hl 1 rfl) ?_
              refine lv_aload_n hM.fx.1 hM.fx.2.1 dX5_readProcesses_91 rfl (lv_at hl 0 rfl) ?_
              obtain ⟨q_19, eq_19, hf⟩ := gbd hf
              refine r_go1 hH rfl (r_runV (As := [.ref (w.1 + q_7.1)]) hM hH cv_X5_93 (mX5_readProgram hLC hM.ns hg0 (hp_6 h_8) eq_19) (hLC.in hg0 (by decide)) (by decide) rfl rfl rfl hl.1 rfl (Nat.le_of_ble_eq_true rfl) ⟨(Nat.le_of_ble_eq_true rfl), (Nat.le_of_ble_eq_true rfl)⟩ ⟨(Nat.le_of_ble_eq_true rfl), (Nat.le_of_ble_eq_true rfl)⟩ dX5_readProcesses_92) (fun hp_18 H locs hH => ?_)
              refine r_if_eq (tgt := 107) hM.fx (gz_r hp_18) dX5_readProcesses_95 (by decide) (fun h_20 => ?_) (fun h_20 => ?_)
              · have hf := gpos h_20 hf
                refine lv_iconst (v := gi (0)) hM.fx.1 hM.fx.2.1 dX5_readProcesses_107 rfl ?_
                obtain rfl := Option.some.inj hf
                exact r_zret hM hH (Or.inl rfl) (Or.inl rfl) ⟨(Nat.le_of_ble_eq_true rfl), (Nat.le_of_ble_eq_true rfl)⟩ dX5_readProcesses_108
              · have hf := gneg' h_20 hf
                refine lv_aload_n hM.fx.1 hM.fx.2.1 dX5_readProcesses_98 rfl (lv_at hl 1 rfl) ?_
                refine lv_bipush (v := gi (59)) hM.fx.1 hM.fx.2.1 dX5_readProcesses_99 (by decide) ?_
                obtain ⟨q_22, eq_22, hf⟩ := gbd hf
                refine r_go1 hH rfl (r_runV (As := [.int (gi 59)]) hM hH cv_X5_54 (mX5_takeSign hLC hM.ns hg0 (gcR (k := 59) (by decide)) eq_22) (hLC.in hg0 (by decide)) (by decide) rfl rfl rfl hl.1 rfl (Nat.le_of_ble_eq_true rfl) ⟨(Nat.le_of_ble_eq_true rfl), (Nat.le_of_ble_eq_true rfl)⟩ ⟨(Nat.le_of_ble_eq_true rfl), (Nat.le_of_ble_eq_true rfl)⟩ dX5_readProcesses_101) (fun hp_21 H locs hH => ?_)
                refine r_if_ne (tgt := 109) hM.fx (gz_r hp_21) dX5_readProcesses_104 (by decide) (fun h_23 => ?_) (fun h_23 => ?_)
                · have hf := gneg' h_23 hf
                  obtain ⟨x_24, ex_24, hf⟩ := gst_s hf
                  have hx_24 : gRI x_24 := by rw [ex_24]; exact gwi_r _
                  refine r_iinc (lv' := [(1, .int (gi x_24)), (2, .ref (w.1 + q_7.1)), (0, .ref (w.1 + a0))]) hM.fx dX5_readProcesses_109 hl (k := 2) rfl (by decide) (by rw [ex_24]; rfl) (fun ls hl => ?_)
                  refine lv_goto (tgt := 2) hM.fx.1 hM.fx.2.1 dX5_readProcesses_112 (by decide) ?_
                  exact hk2 _ _ _ _ hg0 hx_24 hf _ _ _ hH (lv_sub hl [2, 0] rfl)
                · have hf := gpos h_23 hf
                  refine lv_iconst (v := gi (0)) hM.fx.1 hM.fx.2.1 dX5_readProcesses_107 rfl ?_
                  obtain rfl := Option.some.inj hf
                  exact r_zret hM hH (Or.inl rfl) (Or.inl rfl) ⟨(Nat.le_of_ble_eq_true rfl), (Nat.le_of_ble_eq_true rfl)⟩ dX5_readProcesses_108
    · have hf := gpos h_5 hf
      refine lv_iconst (v := gi (0)) hM.fx.1 hM.fx.2.1 dX5_readProcesses_54 rfl ?_
      obtain rfl := Option.some.inj hf
      exact r_zret hM hH (Or.inl rfl) (Or.inl rfl) ⟨(Nat.le_of_ble_eq_true rfl), (Nat.le_of_ble_eq_true rfl)⟩ dX5_readProcesses_55
  · have hf := gneg' h_2 hf
    refine lv_aload_n hM.fx.1 hM.fx.2.1 dX5_readProcesses_34 rfl (lv_at hl 0 rfl) ?_
    refine lv_bipush (v := gi (-6)) hM.fx.1 hM.fx.2.1 dX5_readProcesses_35 (by decide) ?_
    refine lv_aload_n hM.fx.1 hM.fx.2.1 dX5_readProcesses_37 rfl (lv_at hl 0 rfl) ?_
    refine r_getI hM.fx hM.kf hH fl_X5_68 (hLC.in hg0 (by decide)) dX5_readProcesses_38 ?_
    have hr_25 := hH.2.2.i (hLC.in hg0 (by decide)).2.2 (by decide : glg 6 6 = false)
    obtain ⟨q_27, eq_27, hf⟩ := gbd hf
    refine r_go1 hH rfl (r_runV (As := [.int (gi ((-6))), .int (gi (M a0 6))]) hM hH cv_X5_71 (mX5_fails hLC hM.ns hg0 (gcR (k := -6) (by decide)) hr_25 eq_27) (hLC.in hg0 (by decide)) (by decide) rfl rfl rfl hl.1 rfl (Nat.le_of_ble_eq_true rfl) ⟨(Nat.le_of_ble_eq_true rfl), (Nat.le_of_ble_eq_true rfl)⟩ ⟨(Nat.le_of_ble_eq_true rfl), (Nat.le_of_ble_eq_true rfl)⟩ dX5_readProcesses_41) (fun hp_26 H locs hH => ?_)
    obtain rfl := Option.some.inj hf
    exact r_zret hM hH hp_26 hp_26 ⟨(Nat.le_of_ble_eq_true rfl), (Nat.le_of_ble_eq_true rfl)⟩ dX5_readProcesses_44
def fX5_readProcesses_2 (g : Nat → Nat)  : Nat → Nat → Int → gMem → Option (Int × gMem)
  | 0, _, _, _ => none
  | fu + 1, a0, x1, M => if 600 ≤ x1 then (some (1, M)) else (if x1 = 0 then (fX5_readProcesses_22 g (fX5_readProcesses_2 g fu) a0 x1 M) else ((fX5_isWord g a0 1 M).bind fun x_4 => if x_4 = 0 then (some (1, M)) else (fX5_readProcesses_22 g (fX5_readProcesses_2 g fu) a0 x1 M)))
set_option maxHeartbeats 4000000 in
set_option maxRecDepth 100000 in
theorem wX5_readProcesses_2 {w : gW} {n : Nat} {Rm : Nat → Nat → Nat} {g : Nat → Nat} (hLC : gLC g n Rm) {p : Program} {l : Launch} {e : Env} {s : State} {m : MethodId} {args : Array Value} {below : List Frame} {meth : Method} {c : Code} (hM : gMC w p l s m args meth c cX5_readProcesses 3 RX5 (some .boolean))  : ∀ (fu : Nat), ∀ (a0 : Nat) (x1 : Int) (M : gMem) (r : (Int × gMem)) (hg0 : g a0 = 6) (hr1 : gRI x1) (hf : fX5_readProcesses_2 g fu a0 x1 M = some r) (H : Heap) (locs : List Loc) (ls : Array Slot) (hH : gH w n Rm M s H locs) (hl : lv_has ls 3 [(0, .ref (w.1 + a0)), (1, .int (gi x1))]), W p l e { frames := 12, cells := 0, slots := 0, locals := 338 } s m args below meth c H locs 0 0 (gQ w n Rm below args s 0 0 (.inr (some (.int (gi r.1)))) r.2 (r.1 = 0 ∨ r.1 = 1)) (F0 m 2 ls []) := by
  intro fu
  induction fu with
  | zero =>
    intro a0 x1 M r hg0 hr1 hf H locs ls hH hl
    exact absurd hf (by simp [fX5_readProcesses_2])
  | succ fu ih =>
    intro a0 x1 M r hg0 hr1 hf H locs ls hH hl
    unfold fX5_readProcesses_2 at hf
    refine lv_iload_n hM.fx.1 hM.fx.2.1 dX5_readProcesses_2 rfl (lv_at hl 1 rfl) ?_
    refine lv_sipush (v := gi (600)) hM.fx.1 hM.fx.2.1 dX5_readProcesses_3 (by decide) ?_
    refine r_icmp_ge (tgt := 115) hM.fx hr1 (gcR (k := 600) (by decide)) dX5_readProcesses_6 (by decide) (fun h_1 => ?_) (fun h_1 => ?_)
    · have hf := gpos h_1 hf
      refine lv_iconst (v := gi (1)) hM.fx.1 hM.fx.2.1 dX5_readProcesses_115 rfl ?_
      obtain rfl := Option.some.inj hf
      exact r_zret hM hH (Or.inr rfl) (Or.inr rfl) ⟨(Nat.le_of_ble_eq_true rfl), (Nat.le_of_ble_eq_true rfl)⟩ dX5_readProcesses_116
    · have hf := gneg' h_1 hf
      refine lv_iload_n hM.fx.1 hM.fx.2.1 dX5_readProcesses_9 rfl (lv_at hl 1 rfl) ?_
      refine r_if_eq (tgt := 22) hM.fx hr1 dX5_readProcesses_10 (by decide) (fun h_2 => ?_) (fun h_2 => ?_)
      · have hf := gpos h_2 hf
        exact wX5_readProcesses_22 hLC hM (fX5_readProcesses_2 g fu) ih  _ _ _ _ hg0 hr1 hf _ _ _ hH hl
      · have hf := gneg' h_2 hf
        refine lv_aload_n hM.fx.1 hM.fx.2.1 dX5_readProcesses_13 rfl (lv_at hl 0 rfl) ?_
        refine r_ldcS (tx := "process") hM.fx hM.kf 1 rfl dX5_readProcesses_14 ?_
        obtain ⟨x_4, ex_4, hf⟩ := gbd hf
        refine r_go1 hH rfl (r_runV (As := [gsR w 1]) hM hH cv_X5_76 (mX5_isWord hLC hM.ns hg0 (by decide : gtx 1 ≠ []) ex_4) (hLC.in hg0 (by decide)) (by decide) rfl rfl rfl hl.1 rfl (Nat.le_of_ble_eq_true rfl) ⟨(Nat.le_of_ble_eq_true rfl), (Nat.le_of_ble_eq_true rfl)⟩ ⟨(Nat.le_of_ble_eq_true rfl), (Nat.le_of_ble_eq_true rfl)⟩ dX5_readProcesses_16) (fun hp_3 H locs hH => ?_)
        refine r_if_eq (tgt := 115) hM.fx (gz_r hp_3) dX5_readProcesses_19 (by decide) (fun h_5 => ?_) (fun h_5 => ?_)
        · have hf := gpos h_5 hf
          refine lv_iconst (v := gi (1)) hM.fx.1 hM.fx.2.1 dX5_readProcesses_115 rfl ?_
          obtain rfl := Option.some.inj hf
          exact r_zret hM hH (Or.inr rfl) (Or.inr rfl) ⟨(Nat.le_of_ble_eq_true rfl), (Nat.le_of_ble_eq_true rfl)⟩ dX5_readProcesses_116
        · have hf := gneg' h_5 hf
          exact wX5_readProcesses_22 hLC hM (fX5_readProcesses_2 g fu) ih  _ _ _ _ hg0 hr1 hf _ _ _ hH hl
def fX5_readProcesses (g : Nat → Nat) (a0 : Nat) (M : gMem) : Option (Int × gMem) :=
  fX5_readProcesses_2 g gF a0 0 M
set_option maxHeartbeats 4000000 in
set_option maxRecDepth 100000 in
theorem mX5_readProcesses {w : gW} {n : Nat} {Rm : Nat → Nat → Nat} {g : Nat → Nat} (hLC : gLC g n Rm) {l : Launch} (hl9 : l.stackTraces = false) {a0 : Nat} {M : gMem} {r : (Int × gMem)} (hg0 : g a0 = 6) (hf : fX5_readProcesses g a0 M = some r) : gMT w n Rm l yX5_readProcesses cX5_readProcesses 3 (some .boolean) 12 338 0 0 [.ref (w.1 + a0)] M (.inr (some (.int (gi r.1)))) r.2 (r.1 = 0 ∨ r.1 = 1) := by
  unfold fX5_readProcesses at hf
  refine gMT.of hl9 (by decide +kernel) ((Nat.le_of_ble_eq_true rfl)) ?_
  intro p e s m below meth c hM hH ls hl
  have hM : gMC w p l s m ([.ref (w.1 + a0)] : List Value).toArray meth c cX5_readProcesses 3 RX5 (some .boolean) := hM
  have hl : lv_has ls 3 [(0, .ref (w.1 + a0))] := hl
  refine lv_iconst (v := gi (0)) hM.fx.1 hM.fx.2.1 dX5_readProcesses_0 rfl ?_
  refine lv_istore_n (lv' := [(1, .int (gi 0)), (0, .ref (w.1 + a0))]) hM.fx.1 hM.fx.2.1 dX5_readProcesses_1 rfl hl (by decide) rfl (fun ls hl => ?_)
  exact wX5_readProcesses_2 hLC hM  gF _ _ _ _ hg0 (gcR (k := 0) (by decide)) hf _ _ _ hH (lv_sub hl [1, 0] rfl)
def fX5_readHolder (g : Nat → Nat) (a0 : Nat) (x1 : Int) (M : gMem) : Option (Int × gMem) :=
  (fX5_isName g a0 M).bind fun x_2 => if x_2 = 0 then ((fX5_fails g a0 ((-2)) (M a0 6) M).bind fun q_24 => some (q_24.1, q_24.2)) else ((fX0_procNamed g (a0 + 2) (M a0 8) M).bind fun x_6 => (fX0_procAt g (a0 + 2) x_6 M).bind fun a_8 => if a_8 = 0 then ((fX5_fails g a0 ((-4)) (M a0 6) M).bind fun q_21 => some (q_21.1, q_21.2)) else (if M a_8 10 = (-1) then ((fX0_setInHand g (a0 + 2) x_6 x1 M).bind fun M_13 => (fX5_next g a0 M_13).bind fun M_15 => some (1, M_15)) else ((fX5_fails g a0 ((-5)) (M a0 6) M).bind fun q_18 => some (q_18.1, q_18.2))))
set_option maxHeartbeats 4000000 in
set_option maxRecDepth 100000 in
theorem mX5_readHolder {w : gW} {n : Nat} {Rm : Nat → Nat → Nat} {g : Nat → Nat} (hLC : gLC g n Rm) {l : Launch} (hl9 : l.stackTraces = false) {a0 : Nat} {x1 : Int} {M : gMem} {r : (Int × gMem)} (hg0 : g a0 = 6) (hr1 : gRI x1) (hf : fX5_readHolder g a0 x1 M = some r) : gMT w n Rm l yX5_readHolder cX5_readHolder 4 (some .boolean) 2 83 0 0 [.ref (w.1 + a0), .int (gi x1)] M (.inr (some (.int (gi r.1)))) r.2 (r.1 = 0 ∨ r.1 = 1) := by
  unfold fX5_readHolder at hf
  refine gMT.of hl9 (by decide +kernel) ((Nat.le_of_ble_eq_true rfl)) ?_
  intro p e s m below meth c hM hH ls hl
  have hM : gMC w p l s m ([.ref (w.1 + a0), .int (gi x1)] : List Value).toArray meth c cX5_readHolder 4 RX5 (some .boolean) := hM
  have hl : lv_has ls 4 [(0, .ref (w.1 + a0)), (1, .int (gi x1))] := hl
  refine lv_aload_n hM.fx.1 hM.fx.2.1 dX5_readHolder_0 rfl (lv_at hl 0 rfl) ?_
  obtain ⟨x_2, ex_2, hf⟩ := gbd hf
  refine r_go1 hH rfl (r_runV (As := []) hM hH cv_X5_96 (mX5_isName hLC hM.ns hg0 ex_2) (hLC.in hg0 (by decide)) (by decide) rfl rfl rfl hl.1 rfl (Nat.le_of_ble_eq_true rfl) ⟨(Nat.le_of_ble_eq_true rfl), (Nat.le_of_ble_eq_true rfl)⟩ ⟨(Nat.le_of_ble_eq_true rfl), (Nat.le_of_ble_eq_true rfl)⟩ dX5_readHolder_1) (fun hp_1 H locs hH => ?_)
  refine r_if_ne (tgt := 18) hM.fx (gz_r hp_1) dX5_readHolder_4 (by decide) (fun h_3 => ?_) (fun h_3 => ?_)
  · have hf := gneg' h_3 hf
    refine lv_aload_n hM.fx.1 hM.fx.2.1 dX5_readHolder_18 rfl (lv_at hl 0 rfl) ?_
    refine r_getR hM.fx hM.kf hH hLC fl_X5_18 hg0 gch_6_1 dX5_readHolder_19 ?_
    refine lv_aload_n hM.fx.1 hM.fx.2.1 dX5_readHolder_22 rfl (lv_at hl 0 rfl) ?_
    refine r_getL hM.fx hM.kf hH fl_X5_99 (hLC.in hg0 (by decide)) dX5_readHolder_23 ?_
    have hr_4 := hH.2.2.l (hLC.in hg0 (by decide)).2.2 (by decide : glg 6 8 = true)
    obtain ⟨x_6, ex_6, hf⟩ := gbd hf
    refine r_go1 hH rfl (r_runV (As := [.long (gj (M a0 8))]) hM hH cv_X5_103 (mX0_procNamed hLC hM.ns (hLC.ch hg0 (by decide) gch_6_1) hr_4 ex_6) (hLC.in (hLC.ch hg0 (by decide) gch_6_1) (by decide)) (by decide) rfl rfl rfl hl.1 rfl (Nat.le_of_ble_eq_true rfl) ⟨(Nat.le_of_ble_eq_true rfl), (Nat.le_of_ble_eq_true rfl)⟩ ⟨(Nat.le_of_ble_eq_true rfl), (Nat.le_of_ble_eq_true rfl)⟩ dX5_readHolder_26) (fun hp_5 H locs hH => ?_)
    refine lv_istore_n (lv' := [(2, .int (gi x_6)), (0, .ref (w.1 + a0)), (1, .int (gi x1))]) hM.fx.1 hM.fx.2.1 dX5_readHolder_29 rfl hl (by decide) rfl (fun ls hl => ?_)
    refine lv_aload_n hM.fx.1 hM.fx.2.1 dX5_readHolder_30 rfl (lv_at hl 1 rfl) ?_
    refine r_getR hM.fx hM.kf hH hLC fl_X5_18 hg0 gch_6_1 dX5_readHolder_31 ?_
    refine lv_iload_n hM.fx.1 hM.fx.2.1 dX5_readHolder_34 rfl (lv_at hl 0 rfl) ?_
    obtain ⟨a_8, ea_8, hf⟩ := gbd hf
    refine r_go1 hH rfl (r_runV (As := [.int (gi x_6)]) hM hH cv_X5_176 (mX0_procAt hLC hM.ns (hLC.ch hg0 (by decide) gch_6_1) hp_5 ea_8) (hLC.in (hLC.ch hg0 (by decide) gch_6_1) (by decide)) (by decide) rfl rfl rfl hl.1 rfl (Nat.le_of_ble_eq_true rfl) ⟨(Nat.le_of_ble_eq_true rfl), (Nat.le_of_ble_eq_true rfl)⟩ ⟨(Nat.le_of_ble_eq_true rfl), (Nat.le_of_ble_eq_true rfl)⟩ dX5_readHolder_35) (fun hp_7 H locs hH => ?_)
    refine r_astore_nV (lv' := [(3, gvR w a_8), (2, .int (gi x_6)), (0, .ref (w.1 + a0)), (1, .int (gi x1))]) hM.fx dX5_readHolder_38 rfl hl (by decide) rfl (fun ls hl => ?_)
    refine r_aload_nV hM.fx dX5_readHolder_39 rfl (lv_at hl 0 rfl) ?_
    refine r_ifnonnull (tgt := 54) hM.fx dX5_readHolder_40 (by decide) (fun h_9 => ?_) (fun h_9 => ?_)
    · have hf := gneg' h_9 hf
      rw [gvR_nn h_9] at hl
      refine lv_aload_n hM.fx.1 hM.fx.2.1 dX5_readHolder_54 rfl (lv_at hl 0 rfl) ?_
      refine r_getI hM.fx hM.kf hH fl_X5_180 (hLC.in (hp_7 h_9) (by decide)) dX5_readHolder_55 ?_
      have hr_10 := hH.2.2.i (hLC.in (hp_7 h_9) (by decide)).2.2 (by decide : glg 5 10 = false)
      refine lv_iconst (v := gi (-1)) hM.fx.1 hM.fx.2.1 dX5_readHolder_58 rfl ?_
      refine r_icmp_eq (tgt := 73) hM.fx hr_10 (gcR (k := -1) (by decide)) dX5_readHolder_59 (by decide) (fun h_11 => ?_) (fun h_11 => ?_)
      · have hf := gpos h_11 hf
        refine lv_aload_n hM.fx.1 hM.fx.2.1 dX5_readHolder_73 rfl (lv_at hl 2 rfl) ?_
        refine r_getR hM.fx hM.kf hH hLC fl_X5_18 hg0 gch_6_1 dX5_readHolder_74 ?_
        refine lv_iload_n hM.fx.1 hM.fx.2.1 dX5_readHolder_77 rfl (lv_at hl 1 rfl) ?_
        refine lv_iload_n hM.fx.1 hM.fx.2.1 dX5_readHolder_78 rfl (lv_at hl 3 rfl) ?_
        obtain ⟨M_13, eM_13, hf⟩ := gbd hf
        refine r_go0 hH rfl (r_runV (As := [.int (gi x_6), .int (gi x1)]) hM hH cv_X5_183 (mX0_setInHand hLC hM.ns (hLC.ch hg0 (by decide) gch_6_1) hp_5 hr1 eM_13) (hLC.in (hLC.ch hg0 (by decide) gch_6_1) (by decide)) (by decide) rfl rfl rfl hl.1 rfl (Nat.le_of_ble_eq_true rfl) ⟨(Nat.le_of_ble_eq_true rfl), (Nat.le_of_ble_eq_true rfl)⟩ ⟨(Nat.le_of_ble_eq_true rfl), (Nat.le_of_ble_eq_true rfl)⟩ dX5_readHolder_79) (fun hp_12 H locs hH => ?_)
        refine lv_aload_n hM.fx.1 hM.fx.2.1 dX5_readHolder_82 rfl (lv_at hl 2 rfl) ?_
        obtain ⟨M_15, eM_15, hf⟩ := gbd hf
        refine r_go0 hH rfl (r_runV (As := []) hM hH cv_X5_35 (mX5_next hLC hM.ns hg0 eM_15) (hLC.in hg0 (by decide)) (by decide) rfl rfl rfl hl.1 rfl (Nat.le_of_ble_eq_true rfl) ⟨(Nat.le_of_ble_eq_true rfl), (Nat.le_of_ble_eq_true rfl)⟩ ⟨(Nat.le_of_ble_eq_true rfl), (Nat.le_of_ble_eq_true rfl)⟩ dX5_readHolder_83) (fun hp_14 H locs hH => ?_)
        refine lv_iconst (v := gi (1)) hM.fx.1 hM.fx.2.1 dX5_readHolder_86 rfl ?_
        obtain rfl := Option.some.inj hf
        exact r_zret hM hH (Or.inr rfl) (Or.inr rfl) ⟨(Nat.le_of_ble_eq_true rfl), (Nat.le_of_ble_eq_true rfl)⟩ dX5_readHolder_87
      · have hf := gneg' h_11 hf
        refine lv_aload_n hM.fx.1 hM.fx.2.1 dX5_readHolder_62 rfl (lv_at hl 2 rfl) ?_
        refine lv_bipush (v := gi (-5)) hM.fx.1 hM.fx.2.1 dX5_readHolder_63 (by decide) ?_
        refine lv_aload_n hM.fx.1 hM.fx.2.1 dX5_readHolder_65 rfl (lv_at hl 2 rfl) ?_
        refine r_getI hM.fx hM.kf hH fl_X5_68 (hLC.in hg0 (by decide)) dX5_readHolder_66 ?_
        have hr_16 := hH.2.2.i (hLC.in hg0 (by decide)).2.2 (by decide : glg 6 6 = false)
        obtain ⟨q_18, eq_18, hf⟩ := gbd hf
        refine r_go1 hH rfl (r_runV (As := [.int (gi ((-5))), .int (gi (M a0 6))]) hM hH cv_X5_71 (mX5_fails hLC hM.ns hg0 (gcR (k := -5) (by decide)) hr_16 eq_18) (hLC.in hg0 (by decide)) (by decide) rfl rfl rfl hl.1 rfl (Nat.le_of_ble_eq_true rfl) ⟨(Nat.le_of_ble_eq_true rfl), (Nat.le_of_ble_eq_true rfl)⟩ ⟨(Nat.le_of_ble_eq_true rfl), (Nat.le_of_ble_eq_true rfl)⟩ dX5_readHolder_69) (fun hp_17 H locs hH => ?_)
        obtain rfl := Option.some.inj hf
        exact r_zret hM hH hp_17 hp_17 ⟨(Nat.le_of_ble_eq_true rfl), (Nat.le_of_ble_eq_true rfl)⟩ dX5_readHolder_72
    · have hf := gpos h_9 hf
      refine lv_aload_n hM.fx.1 hM.fx.2.1 dX5_readHolder_43 rfl (lv_at hl 2 rfl) ?_
      refine lv_bipush (v := gi (-4)) hM.fx.1 hM.fx.2.1 dX5_readHolder_44 (by decide) ?_
      refine lv_aload_n hM.fx.1 hM.fx.2.1 dX5_readHolder_46 rfl (lv_at hl 2 rfl) ?_
      refine r_getI hM.fx hM.kf hH fl_X5_68 (hLC.in hg0 (by decide)) dX5_readHolder_47 ?_
      have hr_19 := hH.2.2.i (hLC.in hg0 (by decide)).2.2 (by decide : glg 6 6 = false)
      obtain ⟨q_21, eq_21, hf⟩ := gbd hf
      refine r_go1 hH rfl (r_runV (As := [.int (gi ((-4))), .int (gi (M a0 6))]) hM hH cv_X5_71 (mX5_fails hLC hM.ns hg0 (gcR (k := -4) (by decide)) hr_19 eq_21) (hLC.in hg0 (by decide)) (by decide) rfl rfl rfl hl.1 rfl (Nat.le_of_ble_eq_true rfl) ⟨(Nat.le_of_ble_eq_true rfl), (Nat.le_of_ble_eq_true rfl)⟩ ⟨(Nat.le_of_ble_eq_true rfl), (Nat.le_of_ble_eq_true rfl)⟩ dX5_readHolder_50) (fun hp_20 H locs hH => ?_)
      obtain rfl := Option.some.inj hf
      exact r_zret hM hH hp_20 hp_20 ⟨(Nat.le_of_ble_eq_true rfl), (Nat.le_of_ble_eq_true rfl)⟩ dX5_readHolder_53
  · have hf := gpos h_3 hf
    refine lv_aload_n hM.fx.1 hM.fx.2.1 dX5_readHolder_7 rfl (lv_at hl 0 rfl) ?_
    refine lv_bipush (v := gi (-2)) hM.fx.1 hM.fx.2.1 dX5_readHolder_8 (by decide) ?_
    refine lv_aload_n hM.fx.1 hM.fx.2.1 dX5_readHolder_10 rfl (lv_at hl 0 rfl) ?_
    refine r_getI hM.fx hM.kf hH fl_X5_68 (hLC.in hg0 (by decide)) dX5_readHolder_11 ?_
    have hr_22 := hH.2.2.i (hLC.in hg0 (by decide)).2.2 (by decide : glg 6 6 = false)
    obtain ⟨q_24, eq_24, hf⟩ := gbd hf
    refine r_go1 hH rfl (r_runV (As := [.int (gi ((-2))), .int (gi (M a0 6))]) hM hH cv_X5_71 (mX5_fails hLC hM.ns hg0 (gcR (k := -2) (by decide)) hr_22 eq_24) (hLC.in hg0 (by decide)) (by decide) rfl rfl rfl hl.1 rfl (Nat.le_of_ble_eq_true rfl) ⟨(Nat.le_of_ble_eq_true rfl), (Nat.le_of_ble_eq_true rfl)⟩ ⟨(Nat.le_of_ble_eq_true rfl), (Nat.le_of_ble_eq_true rfl)⟩ dX5_readHolder_14) (fun hp_23 H locs hH => ?_)
    obtain rfl := Option.some.inj hf
    exact r_zret hM hH hp_23 hp_23 ⟨(Nat.le_of_ble_eq_true rfl), (Nat.le_of_ble_eq_true rfl)⟩ dX5_readHolder_17
def fX5_readWhere (g : Nat → Nat) (a0 : Nat) (M : gMem) : Option (Int × gMem) :=
  gst (gwi (M (a0 + 2) 6 - 1)) fun x_2 => (fX5_isWord g a0 19 M).bind fun x_4 => if x_4 = 0 then ((fX5_takeWord g a0 20 M).bind fun q_7 => if q_7.1 = 0 then (some (0, q_7.2)) else (gst (q_7.2 a0 6) fun x_10 => (fX5_takeNumber g a0 0 (gwi (q_7.2 (a0 + 2) 4 - 1)) q_7.2).bind fun q_13 => if q_13.1 = 0 then (some (0, q_13.2)) else ((fX0_lyingOn g (a0 + 2) (q_13.2 a0 10) q_13.2).bind fun x_17 => if x_17 = (-1) then ((fX0_setOnSlot g (a0 + 2) (q_13.2 a0 10) x_2 q_13.2).bind fun M_21 => some (1, M_21)) else ((fX5_fails g a0 ((-5)) x_10 q_13.2).bind fun q_23 => some (q_23.1, q_23.2))))) else ((fX5_next g a0 M).bind fun M_25 => (fX5_readHolder g a0 x_2 M_25).bind fun q_27 => some (q_27.1, q_27.2))
set_option maxHeartbeats 4000000 in
set_option maxRecDepth 100000 in
theorem mX5_readWhere {w : gW} {n : Nat} {Rm : Nat → Nat → Nat} {g : Nat → Nat} (hLC : gLC g n Rm) {l : Launch} (hl9 : l.stackTraces = false) {a0 : Nat} {M : gMem} {r : (Int × gMem)} (hg0 : g a0 = 6) (hf : fX5_readWhere g a0 M = some r) : gMT w n Rm l yX5_readWhere cX5_readWhere 3 (some .boolean) 11 315 0 0 [.ref (w.1 + a0)] M (.inr (some (.int (gi r.1)))) r.2 (r.1 = 0 ∨ r.1 = 1) := by
  unfold fX5_readWhere at hf
  refine gMT.of hl9 (by decide +kernel) ((Nat.le_of_ble_eq_true rfl)) ?_
  intro p e s m below meth c hM hH ls hl
  have hM : gMC w p l s m ([.ref (w.1 + a0)] : List Value).toArray meth c cX5_readWhere 3 RX5 (some .boolean) := hM
  have hl : lv_has ls 3 [(0, .ref (w.1 + a0))] := hl
  refine lv_aload_n hM.fx.1 hM.fx.2.1 dX5_readWhere_0 rfl (lv_at hl 0 rfl) ?_
  refine r_getR hM.fx hM.kf hH hLC fl_X5_18 hg0 gch_6_1 dX5_readWhere_1 ?_
  refine r_getI hM.fx hM.kf hH fl_X5_149 (hLC.in (hLC.ch hg0 (by decide) gch_6_1) (by decide)) dX5_readWhere_4 ?_
  have hr_1 := hH.2.2.i (hLC.in (hLC.ch hg0 (by decide) gch_6_1) (by decide)).2.2 (by decide : glg 1 6 = false)
  refine lv_iconst (v := gi (1)) hM.fx.1 hM.fx.2.1 dX5_readWhere_7 rfl ?_
  refine r_isub hM.fx dX5_readWhere_8 ?_
  obtain ⟨x_2, ex_2, hf⟩ := gst_s hf
  refine W.eq (g2 := F0 m _ ls (.int (gi x_2) :: _)) (by rw [ex_2]) ?_
  have hx_2 : gRI x_2 := by rw [ex_2]; exact (gwi_r _)
  refine lv_istore_n (lv' := [(1, .int (gi x_2)), (0, .ref (w.1 + a0))]) hM.fx.1 hM.fx.2.1 dX5_readWhere_9 rfl hl (by decide) rfl (fun ls hl => ?_)
  refine lv_aload_n hM.fx.1 hM.fx.2.1 dX5_readWhere_10 rfl (lv_at hl 1 rfl) ?_
  refine r_ldcS (tx := "with") hM.fx hM.kf 19 rfl dX5_readWhere_11 ?_
  obtain ⟨x_4, ex_4, hf⟩ := gbd hf
  refine r_go1 hH rfl (r_runV (As := [gsR w 19]) hM hH cv_X5_76 (mX5_isWord hLC hM.ns hg0 (by decide : gtx 19 ≠ []) ex_4) (hLC.in hg0 (by decide)) (by decide) rfl rfl rfl hl.1 rfl (Nat.le_of_ble_eq_true rfl) ⟨(Nat.le_of_ble_eq_true rfl), (Nat.le_of_ble_eq_true rfl)⟩ ⟨(Nat.le_of_ble_eq_true rfl), (Nat.le_of_ble_eq_true rfl)⟩ dX5_readWhere_13) (fun hp_3 H locs hH => ?_)
  refine r_if_eq (tgt := 29) hM.fx (gz_r hp_3) dX5_readWhere_16 (by decide) (fun h_5 => ?_) (fun h_5 => ?_)
  · have hf := gpos h_5 hf
    refine lv_aload_n hM.fx.1 hM.fx.2.1 dX5_readWhere_29 rfl (lv_at hl 1 rfl) ?_
    refine r_ldcS (tx := "at") hM.fx hM.kf 20 rfl dX5_readWhere_30 ?_
    obtain ⟨q_7, eq_7, hf⟩ := gbd hf
    refine r_go1 hH rfl (r_runV (As := [gsR w 20]) hM hH cv_X5_39 (mX5_takeWord hLC hM.ns hg0 (by decide : gtx 20 ≠ []) eq_7) (hLC.in hg0 (by decide)) (by decide) rfl rfl rfl hl.1 rfl (Nat.le_of_ble_eq_true rfl) ⟨(Nat.le_of_ble_eq_true rfl), (Nat.le_of_ble_eq_true rfl)⟩ ⟨(Nat.le_of_ble_eq_true rfl), (Nat.le_of_ble_eq_true rfl)⟩ dX5_readWhere_32) (fun hp_6 H locs hH => ?_)
    refine r_if_ne (tgt := 40) hM.fx (gz_r hp_6) dX5_readWhere_35 (by decide) (fun h_8 => ?_) (fun h_8 => ?_)
    · have hf := gneg' h_8 hf
      refine lv_aload_n hM.fx.1 hM.fx.2.1 dX5_readWhere_40 rfl (lv_at hl 1 rfl) ?_
      refine r_getI hM.fx hM.kf hH fl_X5_68 (hLC.in hg0 (by decide)) dX5_readWhere_41 ?_
      have hr_9 := hH.2.2.i (hLC.in hg0 (by decide)).2.2 (by decide : glg 6 6 = false)
      obtain ⟨x_10, ex_10, hf⟩ := gst_s hf
      refine W.eq (g2 := F0 m _ ls (.int (gi x_10) :: _)) (by rw [ex_10]) ?_
      have hx_10 : gRI x_10 := by rw [ex_10]; exact hr_9
      refine lv_istore_n (lv' := [(2, .int (gi x_10)), (1, .int (gi x_2)), (0, .ref (w.1 + a0))]) hM.fx.1 hM.fx.2.1 dX5_readWhere_44 rfl hl (by decide) rfl (fun ls hl => ?_)
      refine lv_aload_n hM.fx.1 hM.fx.2.1 dX5_readWhere_45 rfl (lv_at hl 2 rfl) ?_
      refine lv_iconst (v := gi (0)) hM.fx.1 hM.fx.2.1 dX5_readWhere_46 rfl ?_
      refine lv_aload_n hM.fx.1 hM.fx.2.1 dX5_readWhere_47 rfl (lv_at hl 2 rfl) ?_
      refine r_getR hM.fx hM.kf hH hLC fl_X5_18 hg0 gch_6_1 dX5_readWhere_48 ?_
      refine r_getI hM.fx hM.kf hH fl_X5_120 (hLC.in (hLC.ch hg0 (by decide) gch_6_1) (by decide)) dX5_readWhere_51 ?_
      have hr_11 := hH.2.2.i (hLC.in (hLC.ch hg0 (by decide) gch_6_1) (by decide)).2.2 (by decide : glg 1 4 = false)
      refine lv_iconst (v := gi (1)) hM.fx.1 hM.fx.2.1 dX5_readWhere_54 rfl ?_
      refine r_isub hM.fx dX5_readWhere_55 ?_
      obtain ⟨q_13, eq_13, hf⟩ := gbd hf
      refine r_go1 hH rfl (r_runV (As := [.int (gi 0), .int (gi (gwi (q_7.2 (a0 + 2) 4 - 1)))]) hM hH cv_X5_43 (mX5_takeNumber hLC hM.ns hg0 (gcR (k := 0) (by decide)) (gwi_r _) eq_13) (hLC.in hg0 (by decide)) (by decide) rfl rfl rfl hl.1 rfl (Nat.le_of_ble_eq_true rfl) ⟨(Nat.le_of_ble_eq_true rfl), (Nat.le_of_ble_eq_true rfl)⟩ ⟨(Nat.le_of_ble_eq_true rfl), (Nat.le_of_ble_eq_true rfl)⟩ dX5_readWhere_56) (fun hp_12 H locs hH => ?_)
      refine r_if_ne (tgt := 64) hM.fx (gz_r hp_12) dX5_readWhere_59 (by decide) (fun h_14 => ?_) (fun h_14 => ?_)
      · have hf := gneg' h_14 hf
        refine lv_aload_n hM.fx.1 hM.fx.2.1 dX5_readWhere_64 rfl (lv_at hl 2 rfl) ?_
        refine r_getR hM.fx hM.kf hH hLC fl_X5_18 hg0 gch_6_1 dX5_readWhere_65 ?_
        refine lv_aload_n hM.fx.1 hM.fx.2.1 dX5_readWhere_68 rfl (lv_at hl 2 rfl) ?_
        refine r_getI hM.fx hM.kf hH fl_X5_47 (hLC.in hg0 (by decide)) dX5_readWhere_69 ?_
        have hr_15 := hH.2.2.i (hLC.in hg0 (by decide)).2.2 (by decide : glg 6 10 = false)
        obtain ⟨x_17, ex_17, hf⟩ := gbd hf
        refine r_go1 hH rfl (r_runV (As := [.int (gi (q_13.2 a0 10))]) hM hH cv_X5_169 (mX0_lyingOn hLC hM.ns (hLC.ch hg0 (by decide) gch_6_1) hr_15 ex_17) (hLC.in (hLC.ch hg0 (by decide) gch_6_1) (by decide)) (by decide) rfl rfl rfl hl.1 rfl (Nat.le_of_ble_eq_true rfl) ⟨(Nat.le_of_ble_eq_true rfl), (Nat.le_of_ble_eq_true rfl)⟩ ⟨(Nat.le_of_ble_eq_true rfl), (Nat.le_of_ble_eq_true rfl)⟩ dX5_readWhere_72) (fun hp_16 H locs hH => ?_)
        refine lv_iconst (v := gi (-1)) hM.fx.1 hM.fx.2.1 dX5_readWhere_75 rfl ?_
        refine r_icmp_eq (tgt := 87) hM.fx hp_16 (gcR (k := -1) (by decide)) dX5_readWhere_76 (by decide) (fun h_18 => ?_) (fun h_18 => ?_)
        · have hf := gpos h_18 hf
          refine lv_aload_n hM.fx.1 hM.fx.2.1 dX5_readWhere_87 rfl (lv_at hl 2 rfl) ?_
          refine r_getR hM.fx hM.kf hH hLC fl_X5_18 hg0 gch_6_1 dX5_readWhere_88 ?_
          refine lv_aload_n hM.fx.1 hM.fx.2.1 dX5_readWhere_91 rfl (lv_at hl 2 rfl) ?_
          refine r_getI hM.fx hM.kf hH fl_X5_47 (hLC.in hg0 (by decide)) dX5_readWhere_92 ?_
          have hr_19 := hH.2.2.i (hLC.in hg0 (by decide)).2.2 (by decide : glg 6 10 = false)
          refine lv_iload_n hM.fx.1 hM.fx.2.1 dX5_readWhere_95 rfl (lv_at hl 1 rfl) ?_
          obtain ⟨M_21, eM_21, hf⟩ := gbd hf
          refine r_go0 hH rfl (r_runV (As := [.int (gi (q_13.2 a0 10)), .int (gi x_2)]) hM hH cv_X5_173 (mX0_setOnSlot hLC hM.ns (hLC.ch hg0 (by decide) gch_6_1) hr_19 hx_2 eM_21) (hLC.in (hLC.ch hg0 (by decide) gch_6_1) (by decide)) (by decide) rfl rfl rfl hl.1 rfl (Nat.le_of_ble_eq_true rfl) ⟨(Nat.le_of_ble_eq_true rfl), (Nat.le_of_ble_eq_true rfl)⟩ ⟨(Nat.le_of_ble_eq_true rfl), (Nat.le_of_ble_eq_true rfl)⟩ dX5_readWhere_96) (fun hp_20 H locs hH => ?_)
          refine lv_iconst (v := gi (1)) hM.fx.1 hM.fx.2.1 dX5_readWhere_99 rfl ?_
          obtain rfl := Option.some.inj hf
          exact r_zret hM hH (Or.inr rfl) (Or.inr rfl) ⟨(Nat.le_of_ble_eq_true rfl), (Nat.le_of_ble_eq_true rfl)⟩ dX5_readWhere_100
        · have hf := gneg' h_18 hf
          refine lv_aload_n hM.fx.1 hM.fx.2.1 dX5_readWhere_79 rfl (lv_at hl 2 rfl) ?_
          refine lv_bipush (v := gi (-5)) hM.fx.1 hM.fx.2.1 dX5_readWhere_80 (by decide) ?_
          refine lv_iload_n hM.fx.1 hM.fx.2.1 dX5_readWhere_82 rfl (lv_at hl 0 rfl) ?_
          obtain ⟨q_23, eq_23, hf⟩ := gbd hf
          refine r_go1 hH rfl (r_runV (As := [.int (gi ((-5))), .int (gi x_10)]) hM hH cv_X5_71 (mX5_fails hLC hM.ns hg0 (gcR (k := -5) (by decide)) hx_10 eq_23) (hLC.in hg0 (by decide)) (by decide) rfl rfl rfl hl.1 rfl (Nat.le_of_ble_eq_true rfl) ⟨(Nat.le_of_ble_eq_true rfl), (Nat.le_of_ble_eq_true rfl)⟩ ⟨(Nat.le_of_ble_eq_true rfl), (Nat.le_of_ble_eq_true rfl)⟩ dX5_readWhere_83) (fun hp_22 H locs hH => ?_)
          obtain rfl := Option.some.inj hf
          exact r_zret hM hH hp_22 hp_22 ⟨(Nat.le_of_ble_eq_true rfl), (Nat.le_of_ble_eq_true rfl)⟩ dX5_readWhere_86
      · have hf := gpos h_14 hf
        refine lv_iconst (v := gi (0)) hM.fx.1 hM.fx.2.1 dX5_readWhere_62 rfl ?_
        obtain rfl := Option.some.inj hf
        exact r_zret hM hH (Or.inl rfl) (Or.inl rfl) ⟨(Nat.le_of_ble_eq_true rfl), (Nat.le_of_ble_eq_true rfl)⟩ dX5_readWhere_63
    · have hf := gpos h_8 hf
      refine lv_iconst (v := gi (0)) hM.fx.1 hM.fx.2.1 dX5_readWhere_38 rfl ?_
      obtain rfl := Option.some.inj hf
      exact r_zret hM hH (Or.inl rfl) (Or.inl rfl) ⟨(Nat.le_of_ble_eq_true rfl), (Nat.le_of_ble_eq_true rfl)⟩ dX5_readWhere_39
  · have hf := gneg' h_5 hf
    refine lv_aload_n hM.fx.1 hM.fx.2.1 dX5_readWhere_19 rfl (lv_at hl 1 rfl) ?_
    obtain ⟨M_25, eM_25, hf⟩ := gbd hf
    refine r_go0 hH rfl (r_runV (As := []) hM hH cv_X5_35 (mX5_next hLC hM.ns hg0 eM_25) (hLC.in hg0 (by decide)) (by decide) rfl rfl rfl hl.1 rfl (Nat.le_of_ble_eq_true rfl) ⟨(Nat.le_of_ble_eq_true rfl), (Nat.le_of_ble_eq_true rfl)⟩ ⟨(Nat.le_of_ble_eq_true rfl), (Nat.le_of_ble_eq_true rfl)⟩ dX5_readWhere_20) (fun hp_24 H locs hH => ?_)
    refine lv_aload_n hM.fx.1 hM.fx.2.1 dX5_readWhere_23 rfl (lv_at hl 1 rfl) ?_
    refine lv_iload_n hM.fx.1 hM.fx.2.1 dX5_readWhere_24 rfl (lv_at hl 0 rfl) ?_
    obtain ⟨q_27, eq_27, hf⟩ := gbd hf
    refine r_go1 hH rfl (r_runV (As := [.int (gi x_2)]) hM hH cv_X5_165 (mX5_readHolder hLC hM.ns hg0 hx_2 eq_27) (hLC.in hg0 (by decide)) (by decide) rfl rfl rfl hl.1 rfl (Nat.le_of_ble_eq_true rfl) ⟨(Nat.le_of_ble_eq_true rfl), (Nat.le_of_ble_eq_true rfl)⟩ ⟨(Nat.le_of_ble_eq_true rfl), (Nat.le_of_ble_eq_true rfl)⟩ dX5_readWhere_25) (fun hp_26 H locs hH => ?_)
    obtain rfl := Option.some.inj hf
    exact r_zret hM hH hp_26 hp_26 ⟨(Nat.le_of_ble_eq_true rfl), (Nat.le_of_ble_eq_true rfl)⟩ dX5_readWhere_28
def fX5_readNumbers_28 (g : Nat → Nat) (k2 : Nat → Nat → Int → gMem → Option (Int × gMem)) (a0 : Nat) (a1 : Nat) (x2 : Int) (M : gMem) : Option (Int × gMem) :=
  (fX3_isFull g a1 M).bind fun x_2 => if x_2 = 0 then ((fX5_takeSigned g a0 M).bind fun q_5 => if q_5.1 = 0 then (some (0, q_5.2)) else ((fX3_addTop g a1 (q_5.2 a0 10) q_5.2).bind fun M_9 => gst (gwi (x2 + 1)) fun x_10 => k2 a0 a1 x_10 M_9)) else ((fX5_fails g a0 ((-6)) (M a0 6) M).bind fun q_13 => some (q_13.1, q_13.2))
set_option maxHeartbeats 4000000 in
set_option maxRecDepth 100000 in
theorem wX5_readNumbers_28 {w : gW} {n : Nat} {Rm : Nat → Nat → Nat} {g : Nat → Nat} (hLC : gLC g n Rm) {p : Program} {l : Launch} {e : Env} {s : State} {m : MethodId} {args : Array Value} {below : List Frame} {meth : Method} {c : Code} (hM : gMC w p l s m args meth c cX5_readNumbers 3 RX5 (some .boolean)) (k2 : Nat → Nat → Int → gMem → Option (Int × gMem)) (hk2 : ∀ (a0 : Nat) (a1 : Nat) (x2 : Int) (M : gMem) (r : (Int × gMem)) (hg0 : g a0 = 6) (hg1 : g a1 = 4) (hr2 : gRI x2) (hf : k2 a0 a1 x2 M = some r) (H : Heap) (locs : List Loc) (ls : Array Slot) (hH : gH w n Rm M s H locs) (hl : lv_has ls 3 [(0, .ref (w.1 + a0)), (1, .ref (w.1 + a1)), (2, .int (gi x2))]), W p l e { frames := 4, cells := 0, slots := 0, locals := 125 } s m args below meth c H locs 0 0 (gQ w n Rm below args s 0 0 (.inr (some (.int (gi r.1)))) r.2 (r.1 = 0 ∨ r.1 = 1)) (F0 m 2 ls [])) : ∀ (a0 : Nat) (a1 : Nat) (x2 : Int) (M : gMem) (r : (Int × gMem)) (hg0 : g a0 = 6) (hg1 : g a1 = 4) (hr2 : gRI x2) (hf : fX5_readNumbers_28 g k2 a0 a1 x2 M = some r) (H : Heap) (locs : List Loc) (ls : Array Slot) (hH : gH w n Rm M s H locs) (hl : lv_has ls 3 [(0, .ref (w.1 + a0)), (1, .ref (w.1 + a1)), (2, .int (gi x2))]), W p l e { frames := 4, cells := 0, slots := 0, locals := 125 } s m args below meth c H locs 0 0 (gQ w n Rm below args s 0 0 (.inr (some (.int (gi r.1)))) r.2 (r.1 = 0 ∨ r.1 = 1)) (F0 m 28 ls []) := by
  intro a0 a1 x2 M r hg0 hg1 hr2 hf H locs ls hH hl
  unfold fX5_readNumbers_28 at hf
  refine lv_aload_n hM.fx.1 hM.fx.2.1 dX5_readNumbers_28 rfl (lv_at hl 1 rfl) ?_
  obtain ⟨x_2, ex_2, hf⟩ := gbd hf
  refine r_go1 hH rfl (r_runV (As := []) hM hH cv_X5_186 (mX3_isFull hLC hM.ns hg1 ex_2) (hLC.in hg1 (by decide)) (by decide) rfl rfl rfl hl.1 rfl (Nat.le_of_ble_eq_true rfl) ⟨(Nat.le_of_ble_eq_true rfl), (Nat.le_of_ble_eq_true rfl)⟩ ⟨(Nat.le_of_ble_eq_true rfl), (Nat.le_of_ble_eq_true rfl)⟩ dX5_readNumbers_29) (fun hp_1 H locs hH => ?_)
  refine r_if_eq (tgt := 46) hM.fx (gz_r hp_1) dX5_readNumbers_32 (by decide) (fun h_3 => ?_) (fun h_3 => ?_)
  · have hf := gpos h_3 hf
    refine lv_aload_n hM.fx.1 hM.fx.2.1 dX5_readNumbers_46 rfl (lv_at hl 0 rfl) ?_
    obtain ⟨q_5, eq_5, hf⟩ := gbd hf
    refine r_go1 hH rfl (r_runV (As := []) hM hH cv_X5_135 (mX5_takeSigned hLC hM.ns hg0 eq_5) (hLC.in hg0 (by decide)) (by decide) rfl rfl rfl hl.1 rfl (Nat.le_of_ble_eq_true rfl) ⟨(Nat.le_of_ble_eq_true rfl), (Nat.le_of_ble_eq_true rfl)⟩ ⟨(Nat.le_of_ble_eq_true rfl), (Nat.le_of_ble_eq_true rfl)⟩ dX5_readNumbers_47) (fun hp_4 H locs hH => ?_)
    refine r_if_ne (tgt := 55) hM.fx (gz_r hp_4) dX5_readNumbers_50 (by decide) (fun h_6 => ?_) (fun h_6 => ?_)
    · have hf := gneg' h_6 hf
      refine lv_aload_n hM.fx.1 hM.fx.2.1 dX5_readNumbers_55 rfl (lv_at hl 1 rfl) ?_
      refine lv_aload_n hM.fx.1 hM.fx.2.1 dX5_readNumbers_56 rfl (lv_at hl 0 rfl) ?_
      refine r_getI hM.fx hM.kf hH fl_X5_47 (hLC.in hg0 (by decide)) dX5_readNumbers_57 ?_
      have hr_7 := hH.2.2.i (hLC.in hg0 (by decide)).2.2 (by decide : glg 6 10 = false)
      obtain ⟨M_9, eM_9, hf⟩ := gbd hf
      refine r_go0 hH rfl (r_runV (As := [.int (gi (q_5.2 a0 10))]) hM hH cv_X5_191 (mX3_addTop hLC hM.ns hg1 hr_7 eM_9) (hLC.in hg1 (by decide)) (by decide) rfl rfl rfl hl.1 rfl (Nat.le_of_ble_eq_true rfl) ⟨(Nat.le_of_ble_eq_true rfl), (Nat.le_of_ble_eq_true rfl)⟩ ⟨(Nat.le_of_ble_eq_true rfl), (Nat.le_of_ble_eq_true rfl)⟩ dX5_readNumbers_60) (fun hp_8 H locs hH => ?_)
      obtain ⟨x_10, ex_10, hf⟩ := gst_s hf
      have hx_10 : gRI x_10 := by rw [ex_10]; exact gwi_r _
      refine r_iinc (lv' := [(2, .int (gi x_10)), (0, .ref (w.1 + a0)), (1, .ref (w.1 + a1))]) hM.fx dX5_readNumbers_63 hl (k := 2) rfl (by decide) (by rw [ex_10]; rfl) (fun ls hl => ?_)
      refine lv_goto (tgt := 2) hM.fx.1 hM.fx.2.1 dX5_readNumbers_66 (by decide) ?_
      exact hk2 _ _ _ _ _ hg0 hg1 hx_10 hf _ _ _ hH (lv_sub hl [1, 2, 0] rfl)
    · have hf := gpos h_6 hf
      refine lv_iconst (v := gi (0)) hM.fx.1 hM.fx.2.1 dX5_readNumbers_53 rfl ?_
      obtain rfl := Option.some.inj hf
      exact r_zret hM hH (Or.inl rfl) (Or.inl rfl) ⟨(Nat.le_of_ble_eq_true rfl), (Nat.le_of_ble_eq_true rfl)⟩ dX5_readNumbers_54
  · have hf := gneg' h_3 hf
    refine lv_aload_n hM.fx.1 hM.fx.2.1 dX5_readNumbers_35 rfl (lv_at hl 0 rfl) ?_
    refine lv_bipush (v := gi (-6)) hM.fx.1 hM.fx.2.1 dX5_readNumbers_36 (by decide) ?_
    refine lv_aload_n hM.fx.1 hM.fx.2.1 dX5_readNumbers_38 rfl (lv_at hl 0 rfl) ?_
    refine r_getI hM.fx hM.kf hH fl_X5_68 (hLC.in hg0 (by decide)) dX5_readNumbers_39 ?_
    have hr_11 := hH.2.2.i (hLC.in hg0 (by decide)).2.2 (by decide : glg 6 6 = false)
    obtain ⟨q_13, eq_13, hf⟩ := gbd hf
    refine r_go1 hH rfl (r_runV (As := [.int (gi ((-6))), .int (gi (M a0 6))]) hM hH cv_X5_71 (mX5_fails hLC hM.ns hg0 (gcR (k := -6) (by decide)) hr_11 eq_13) (hLC.in hg0 (by decide)) (by decide) rfl rfl rfl hl.1 rfl (Nat.le_of_ble_eq_true rfl) ⟨(Nat.le_of_ble_eq_true rfl), (Nat.le_of_ble_eq_true rfl)⟩ ⟨(Nat.le_of_ble_eq_true rfl), (Nat.le_of_ble_eq_true rfl)⟩ dX5_readNumbers_42) (fun hp_12 H locs hH => ?_)
    obtain rfl := Option.some.inj hf
    exact r_zret hM hH hp_12 hp_12 ⟨(Nat.le_of_ble_eq_true rfl), (Nat.le_of_ble_eq_true rfl)⟩ dX5_readNumbers_45
def fX5_readNumbers_2 (g : Nat → Nat)  : Nat → Nat → Nat → Int → gMem → Option (Int × gMem)
  | 0, _, _, _, _ => none
  | fu + 1, a0, a1, x2, M => if 600 ≤ x2 then (some (1, M)) else (if M a0 7 = 257 then (fX5_readNumbers_28 g (fX5_readNumbers_2 g fu) a0 a1 x2 M) else (if M a0 7 = 45 then (fX5_readNumbers_28 g (fX5_readNumbers_2 g fu) a0 a1 x2 M) else (some (1, M))))
set_option maxHeartbeats 4000000 in
set_option maxRecDepth 100000 in
theorem wX5_readNumbers_2 {w : gW} {n : Nat} {Rm : Nat → Nat → Nat} {g : Nat → Nat} (hLC : gLC g n Rm) {p : Program} {l : Launch} {e : Env} {s : State} {m : MethodId} {args : Array Value} {below : List Frame} {meth : Method} {c : Code} (hM : gMC w p l s m args meth c cX5_readNumbers 3 RX5 (some .boolean))  : ∀ (fu : Nat), ∀ (a0 : Nat) (a1 : Nat) (x2 : Int) (M : gMem) (r : (Int × gMem)) (hg0 : g a0 = 6) (hg1 : g a1 = 4) (hr2 : gRI x2) (hf : fX5_readNumbers_2 g fu a0 a1 x2 M = some r) (H : Heap) (locs : List Loc) (ls : Array Slot) (hH : gH w n Rm M s H locs) (hl : lv_has ls 3 [(0, .ref (w.1 + a0)), (1, .ref (w.1 + a1)), (2, .int (gi x2))]), W p l e { frames := 4, cells := 0, slots := 0, locals := 125 } s m args below meth c H locs 0 0 (gQ w n Rm below args s 0 0 (.inr (some (.int (gi r.1)))) r.2 (r.1 = 0 ∨ r.1 = 1)) (F0 m 2 ls []) := by
  intro fu
  induction fu with
  | zero =>
    intro a0 a1 x2 M r hg0 hg1 hr2 hf H locs ls hH hl
    exact absurd hf (by simp [fX5_readNumbers_2])
  | succ fu ih =>
    intro a0 a1 x2 M r hg0 hg1 hr2 hf H locs ls hH hl
    unfold fX5_readNumbers_2 at hf
    refine lv_iload_n hM.fx.1 hM.fx.2.1 dX5_readNumbers_2 rfl (lv_at hl 2 rfl) ?_
    refine lv_sipush (v := gi (600)) hM.fx.1 hM.fx.2.1 dX5_readNumbers_3 (by decide) ?_
    refine r_icmp_ge (tgt := 69) hM.fx hr2 (gcR (k := 600) (by decide)) dX5_readNumbers_6 (by decide) (fun h_1 => ?_) (fun h_1 => ?_)
    · have hf := gpos h_1 hf
      refine lv_iconst (v := gi (1)) hM.fx.1 hM.fx.2.1 dX5_readNumbers_69 rfl ?_
      obtain rfl := Option.some.inj hf
      exact r_zret hM hH (Or.inr rfl) (Or.inr rfl) ⟨(Nat.le_of_ble_eq_true rfl), (Nat.le_of_ble_eq_true rfl)⟩ dX5_readNumbers_70
    · have hf := gneg' h_1 hf
      refine lv_aload_n hM.fx.1 hM.fx.2.1 dX5_readNumbers_9 rfl (lv_at hl 0 rfl) ?_
      refine r_getI hM.fx hM.kf hH fl_X5_65 (hLC.in hg0 (by decide)) dX5_readNumbers_10 ?_
      have hr_2 := hH.2.2.i (hLC.in hg0 (by decide)).2.2 (by decide : glg 6 7 = false)
      refine lv_sipush (v := gi (257)) hM.fx.1 hM.fx.2.1 dX5_readNumbers_13 (by decide) ?_
      refine r_icmp_eq (tgt := 28) hM.fx hr_2 (gcR (k := 257) (by decide)) dX5_readNumbers_16 (by decide) (fun h_3 => ?_) (fun h_3 => ?_)
      · have hf := gpos h_3 hf
        exact wX5_readNumbers_28 hLC hM (fX5_readNumbers_2 g fu) ih  _ _ _ _ _ hg0 hg1 hr2 hf _ _ _ hH hl
      · have hf := gneg' h_3 hf
        refine lv_aload_n hM.fx.1 hM.fx.2.1 dX5_readNumbers_19 rfl (lv_at hl 0 rfl) ?_
        refine r_getI hM.fx hM.kf hH fl_X5_65 (hLC.in hg0 (by decide)) dX5_readNumbers_20 ?_
        have hr_4 := hH.2.2.i (hLC.in hg0 (by decide)).2.2 (by decide : glg 6 7 = false)
        refine lv_bipush (v := gi (45)) hM.fx.1 hM.fx.2.1 dX5_readNumbers_23 (by decide) ?_
        refine r_icmp_ne (tgt := 69) hM.fx hr_4 (gcR (k := 45) (by decide)) dX5_readNumbers_25 (by decide) (fun h_5 => ?_) (fun h_5 => ?_)
        · have hf := gneg' h_5 hf
          refine lv_iconst (v := gi (1)) hM.fx.1 hM.fx.2.1 dX5_readNumbers_69 rfl ?_
          obtain rfl := Option.some.inj hf
          exact r_zret hM hH (Or.inr rfl) (Or.inr rfl) ⟨(Nat.le_of_ble_eq_true rfl), (Nat.le_of_ble_eq_true rfl)⟩ dX5_readNumbers_70
        · have hf := gpos h_5 hf
          exact wX5_readNumbers_28 hLC hM (fX5_readNumbers_2 g fu) ih  _ _ _ _ _ hg0 hg1 hr2 hf _ _ _ hH hl
def fX5_readNumbers (g : Nat → Nat) (a0 : Nat) (a1 : Nat) (M : gMem) : Option (Int × gMem) :=
  fX5_readNumbers_2 g gF a0 a1 0 M
set_option maxHeartbeats 4000000 in
set_option maxRecDepth 100000 in
theorem mX5_readNumbers {w : gW} {n : Nat} {Rm : Nat → Nat → Nat} {g : Nat → Nat} (hLC : gLC g n Rm) {l : Launch} (hl9 : l.stackTraces = false) {a0 : Nat} {a1 : Nat} {M : gMem} {r : (Int × gMem)} (hg0 : g a0 = 6) (hg1 : g a1 = 4) (hf : fX5_readNumbers g a0 a1 M = some r) : gMT w n Rm l yX5_readNumbers cX5_readNumbers 3 (some .boolean) 4 125 0 0 [.ref (w.1 + a0), .ref (w.1 + a1)] M (.inr (some (.int (gi r.1)))) r.2 (r.1 = 0 ∨ r.1 = 1) := by
  unfold fX5_readNumbers at hf
  refine gMT.of hl9 (by decide +kernel) ((Nat.le_of_ble_eq_true rfl)) ?_
  intro p e s m below meth c hM hH ls hl
  have hM : gMC w p l s m ([.ref (w.1 + a0), .ref (w.1 + a1)] : List Value).toArray meth c cX5_readNumbers 3 RX5 (some .boolean) := hM
  have hl : lv_has ls 3 [(0, .ref (w.1 + a0)), (1, .ref (w.1 + a1))] := hl
  refine lv_iconst (v := gi (0)) hM.fx.1 hM.fx.2.1 dX5_readNumbers_0 rfl ?_
  refine lv_istore_n (lv' := [(2, .int (gi 0)), (0, .ref (w.1 + a0)), (1, .ref (w.1 + a1))]) hM.fx.1 hM.fx.2.1 dX5_readNumbers_1 rfl hl (by decide) rfl (fun ls hl => ?_)
  exact wX5_readNumbers_2 hLC hM  gF _ _ _ _ _ hg0 hg1 (gcR (k := 0) (by decide)) hf _ _ _ hH (lv_sub hl [1, 2, 0] rfl)
