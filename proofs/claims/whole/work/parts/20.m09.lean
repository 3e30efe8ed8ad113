def fX9_numberOf (g : Nat → Nat) (a0 : Nat) (x1 : Int) (x2 : Int) (M : gMem) : Option Int :=
  (fX9_ofStack g a0 x1 1 M).bind fun x_2 => (fX9_ofStack g a0 x1 (gwi (gwi (gwi (5 + x_2) - 1) - x2)) M).bind fun x_4 => some x_4
set_option maxHeartbeats 4000000 in
set_option maxRecDepth 100000 in
theorem mX9_numberOf {w : gW} {n : Nat} {Rm : Nat → Nat → Nat} {g : Nat → Nat} (hLC : gLC g n Rm) {l : Launch} (hl9 : l.stackTraces = false) {a0 : Nat} {x1 : Int} {x2 : Int} {M : gMem} {r : Int} (hg0 : g a0 = 9) (hr1 : gRI x1) (hr2 : gRI x2) (hf : fX9_numberOf g a0 x1 x2 M = some r) : gMT w n Rm l yX9_numberOf cX9_numberOf 3 (some .int) 2 82 0 0 [.ref (w.1 + a0), .int (gi x1), .int (gi x2)] M (.inr (some (.int (gi r)))) M (gRI r) := by
  unfold fX9_numberOf at hf
  refine gMT.of hl9 (by decide +kernel) ((Nat.le_of_ble_eq_true rfl)) ?_
  intro p e s m below meth c hM hH ls hl
  have hM : gMC w p l s m ([.ref (w.1 + a0), .int (gi x1), .int (gi x2)] : List Value).toArray meth c cX9_numberOf 3 RX9 (some .int) := hM
  have hl : lv_has ls 3 [(0, .ref (w.1 + a0)), (1, .int (gi x1)), (2, .int (gi x2))] := hl
  refine lv_aload_n hM.fx.1 hM.fx.2.1 dX9_numberOf_0 rfl (lv_at hl 0 rfl) ?_
  refine lv_iload_n hM.fx.1 hM.fx.2.1 dX9_numberOf_1 rfl (lv_at hl 1 rfl) ?_
  refine lv_iconst (v := gi (5)) hM.fx.1 hM.fx.2.1 dX9_numberOf_2 rfl ?_
  refine lv_aload_n hM.fx.1 hM.fx.2.1 dX9_numberOf_3 rfl (lv_at hl 0 rfl) ?_
  refine lv_iload_n hM.fx.1 hM.fx.2.1 dX9_numberOf_4 rfl (lv_at hl 1 rfl) ?_
  refine lv_iconst (v := gi (1)) hM.fx.1 hM.fx.2.1 dX9_numberOf_5 rfl ?_
  obtain ⟨x_2, ex_2, hf⟩ := gbd hf
  refine r_go1 hH rfl (r_runV (As := [.int (gi x1), .int (gi 1)]) hM hH cv_X9_232 (mX9_ofStack hLC hM.ns hg0 hr1 (gcR (k := 1) (by decide)) ex_2) (hLC.in hg0 (by decide)) (by decide) rfl rfl rfl hl.1 rfl (Nat.le_of_ble_eq_true rfl) ⟨(Nat.le_of_ble_eq_true rfl), (Nat.le_of_ble_eq_true rfl)⟩ ⟨(Nat.le_of_ble_eq_true rfl), (Nat.le_of_ble_eq_true rfl)⟩ dX9_numberOf_6) (fun hp_1 H locs hH => ?_)
  refine r_iadd hM.fx dX9_numberOf_9 ?_
  refine lv_iconst (v := gi (1)) hM.fx.1 hM.fx.2.1 dX9_numberOf_10 rfl ?_
  refine r_isub hM.fx dX9_numberOf_11 ?_
  refine lv_iload_n hM.fx.1 hM.fx.2.1 dX9_numberOf_12 rfl (lv_at hl 2 rfl) ?_
  refine r_isub hM.fx dX9_numberOf_13 ?_
  obtain ⟨x_4, ex_4, hf⟩ := gbd hf
  refine r_go1 hH rfl (r_runV (As := [.int (gi x1), .int (gi (gwi (gwi (gwi (5 + x_2) - 1) - x2)))]) hM hH cv_X9_232 (mX9_ofStack hLC hM.ns hg0 hr1 (gwi_r _) ex_4) (hLC.in hg0 (by decide)) (by decide) rfl rfl rfl hl.1 rfl (Nat.le_of_ble_eq_true rfl) ⟨(Nat.le_of_ble_eq_true rfl), (Nat.le_of_ble_eq_true rfl)⟩ ⟨(Nat.le_of_ble_eq_true rfl), (Nat.le_of_ble_eq_true rfl)⟩ dX9_numberOf_14) (fun hp_3 H locs hH => ?_)
  obtain rfl := Option.some.inj hf
  exact r_iret hM hH hp_3 ⟨(Nat.le_of_ble_eq_true rfl), (Nat.le_of_ble_eq_true rfl)⟩ dX9_numberOf_17
def fX9_resultOf (g : Nat → Nat) (a0 : Nat) (x1 : Int) (x2 : Int) (M : gMem) : Option Int :=
  (fX9_numberOf g a0 x1 1 M).bind fun x_2 => (fX9_numberOf g a0 x1 0 M).bind fun x_4 => if x2 = 4 then (some (gwl (x_2 + x_4))) else (if x2 = 5 then (some (gwl (x_2 - x_4))) else (some (gwl (x_2 * x_4))))
set_option maxHeartbeats 4000000 in
set_option maxRecDepth 100000 in
theorem mX9_resultOf {w : gW} {n : Nat} {Rm : Nat → Nat → Nat} {g : Nat → Nat} (hLC : gLC g n Rm) {l : Launch} (hl9 : l.stackTraces = false) {a0 : Nat} {x1 : Int} {x2 : Int} {M : gMem} {r : Int} (hg0 : g a0 = 9) (hr1 : gRI x1) (hr2 : gRI x2) (hf : fX9_resultOf g a0 x1 x2 M = some r) : gMT w n Rm l yX9_resultOf cX9_resultOf 7 (some .long) 3 104 0 0 [.ref (w.1 + a0), .int (gi x1), .int (gi x2)] M (.inr (some (.long (gj r)))) M (gRL r) := by
  unfold fX9_resultOf at hf
  refine gMT.of hl9 (by decide +kernel) ((Nat.le_of_ble_eq_true rfl)) ?_
  intro p e s m below meth c hM hH ls hl
  have hM : gMC w p l s m ([.ref (w.1 + a0), .int (gi x1), .int (gi x2)] : List Value).toArray meth c cX9_resultOf 7 RX9 (some .long) := hM
  have hl : lv_has ls 7 [(0, .ref (w.1 + a0)), (1, .int (gi x1)), (2, .int (gi x2))] := hl
  refine lv_aload_n hM.fx.1 hM.fx.2.1 dX9_resultOf_0 rfl (lv_at hl 0 rfl) ?_
  refine lv_iload_n hM.fx.1 hM.fx.2.1 dX9_resultOf_1 rfl (lv_at hl 1 rfl) ?_
  refine lv_iconst (v := gi (1)) hM.fx.1 hM.fx.2.1 dX9_resultOf_2 rfl ?_
  obtain ⟨x_2, ex_2, hf⟩ := gbd hf
  refine r_go1 hH rfl (r_runV (As := [.int (gi x1), .int (gi 1)]) hM hH cv_X9_235 (mX9_numberOf hLC hM.ns hg0 hr1 (gcR (k := 1) (by decide)) ex_2) (hLC.in hg0 (by decide)) (by decide) rfl rfl rfl hl.1 rfl (Nat.le_of_ble_eq_true rfl) ⟨(Nat.le_of_ble_eq_true rfl), (Nat.le_of_ble_eq_true rfl)⟩ ⟨(Nat.le_of_ble_eq_true rfl), (Nat.le_of_ble_eq_true rfl)⟩ dX9_resultOf_3) (fun hp_1 H locs hH => ?_)
  refine r_i2l hM.fx hp_1 dX9_resultOf_6 ?_
  refine lv_lstore_n (lv' := [(3, .long (gj x_2)), (0, .ref (w.1 + a0)), (1, .int (gi x1)), (2, .int (gi x2))]) hM.fx.1 hM.fx.2.1 dX9_resultOf_7 rfl hl (by decide) rfl (fun ls hl => ?_)
  refine lv_aload_n hM.fx.1 hM.fx.2.1 dX9_resultOf_8 rfl (lv_at hl 1 rfl) ?_
  refine lv_iload_n hM.fx.1 hM.fx.2.1 dX9_resultOf_9 rfl (lv_at hl 2 rfl) ?_
  refine lv_iconst (v := gi (0)) hM.fx.1 hM.fx.2.1 dX9_resultOf_10 rfl ?_
  obtain ⟨x_4, ex_4, hf⟩ := gbd hf
  refine r_go1 hH rfl (r_runV (As := [.int (gi x1), .int (gi 0)]) hM hH cv_X9_235 (mX9_numberOf hLC hM.ns hg0 hr1 (gcR (k := 0) (by decide)) ex_4) (hLC.in hg0 (by decide)) (by decide) rfl rfl rfl hl.1 rfl (Nat.le_of_ble_eq_true rfl) ⟨(Nat.le_of_ble_eq_true rfl), (Nat.le_of_ble_eq_true rfl)⟩ ⟨(Nat.le_of_ble_eq_true rfl), (Nat.le_of_ble_eq_true rfl)⟩ dX9_resultOf_11) (fun hp_3 H locs hH => ?_)
  refine r_i2l hM.fx hp_3 dX9_resultOf_14 ?_
  refine lv_lstore (lv' := [(5, .long (gj x_4)), (3, .long (gj x_2)), (0, .ref (w.1 + a0)), (1, .int (gi x1)), (2, .int (gi x2))]) hM.fx.1 hM.fx.2.1 dX9_resultOf_15 hl (by decide) rfl (fun ls hl => ?_)
  refine lv_iload_n hM.fx.1 hM.fx.2.1 dX9_resultOf_17 rfl (lv_at hl 4 rfl) ?_
  refine lv_iconst (v := gi (4)) hM.fx.1 hM.fx.2.1 dX9_resultOf_18 rfl ?_
  refine r_icmp_ne (tgt := 29) hM.fx hr2 (gcR (k := 4) (by decide)) dX9_resultOf_19 (by decide) (fun h_5 => ?_) (fun h_5 => ?_)
  · have hf := gneg' h_5 hf
    refine lv_iload_n hM.fx.1 hM.fx.2.1 dX9_resultOf_29 rfl (lv_at hl 4 rfl) ?_
    refine lv_iconst (v := gi (5)) hM.fx.1 hM.fx.2.1 dX9_resultOf_30 rfl ?_
    refine r_icmp_ne (tgt := 41) hM.fx hr2 (gcR (k := 5) (by decide)) dX9_resultOf_31 (by decide) (fun h_6 => ?_) (fun h_6 => ?_)
    · have hf := gneg' h_6 hf
      refine lv_lload_n hM.fx.1 hM.fx.2.1 dX9_resultOf_41 rfl (lv_at hl 1 rfl) ?_
      refine lv_lload hM.fx.1 hM.fx.2.1 dX9_resultOf_42 (lv_at hl 0 rfl) ?_
      refine r_lmul hM.fx dX9_resultOf_44 ?_
      obtain rfl := Option.some.inj hf
      exact r_lret hM hH (gwl_r _) ⟨(Nat.le_of_ble_eq_true rfl), (Nat.le_of_ble_eq_true rfl)⟩ dX9_resultOf_45
    · have hf := gpos h_6 hf
      refine lv_lload_n hM.fx.1 hM.fx.2.1 dX9_resultOf_34 rfl (lv_at hl 1 rfl) ?_
      refine lv_lload hM.fx.1 hM.fx.2.1 dX9_resultOf_35 (lv_at hl 0 rfl) ?_
      refine r_lsub hM.fx dX9_resultOf_37 ?_
      refine lv_goto (tgt := 45) hM.fx.1 hM.fx.2.1 dX9_resultOf_38 (by decide) ?_
      obtain rfl := Option.some.inj hf
      exact r_lret hM hH (gwl_r _) ⟨(Nat.le_of_ble_eq_true rfl), (Nat.le_of_ble_eq_true rfl)⟩ dX9_resultOf_45
  · have hf := gpos h_5 hf
    refine lv_lload_n hM.fx.1 hM.fx.2.1 dX9_resultOf_22 rfl (lv_at hl 1 rfl) ?_
    refine lv_lload hM.fx.1 hM.fx.2.1 dX9_resultOf_23 (lv_at hl 0 rfl) ?_
    refine r_ladd hM.fx dX9_resultOf_25 ?_
    refine lv_goto (tgt := 45) hM.fx.1 hM.fx.2.1 dX9_resultOf_26 (by decide) ?_
    obtain rfl := Option.some.inj hf
    exact r_lret hM hH (gwl_r _) ⟨(Nat.le_of_ble_eq_true rfl), (Nat.le_of_ble_eq_true rfl)⟩ dX9_resultOf_45
def fX9_faultOf_150 (g : Nat → Nat)  (a0 : Nat) (x2 : Int) (x3 : Int) (M : gMem) : Option Int :=
  (fX9_isSum g x2).bind fun x_2 => if x_2 = 0 then (some 0) else ((fX9_resultOf g a0 x3 x2 M).bind fun x_5 => if glcmp x_5 (-999999) < 0 then (some 6) else (if glcmp x_5 999999 ≤ 0 then (some 0) else (some 6)))
set_option maxHeartbeats 4000000 in
set_option maxRecDepth 100000 in
theorem wX9_faultOf_150 {w : gW} {n : Nat} {Rm : Nat → Nat → Nat} {g : Nat → Nat} (hLC : gLC g n Rm) {p : Program} {l : Launch} {e : Env} {s : State} {m : MethodId} {args : Array Value} {below : List Frame} {meth : Method} {c : Code} (hM : gMC w p l s m args meth c cX9_faultOf 7 RX9 (some .int))  : ∀ (a0 : Nat) (x2 : Int) (x3 : Int) (M : gMem) (r : Int) (hg0 : g a0 = 9) (hr2 : gRI x2) (hr3 : gRI x3) (hf : fX9_faultOf_150 g a0 x2 x3 M = some r) (H : Heap) (locs : List Loc) (ls : Array Slot) (hH : gH w n Rm M s H locs) (hl : lv_has ls 7 [(0, .ref (w.1 + a0)), (2, .int (gi x2)), (3, .int (gi x3))]), W p l e { frames := 4, cells := 0, slots := 0, locals := 130 } s m args below meth c H locs 0 0 (gQ w n Rm below args s 0 0 (.inr (some (.int (gi r)))) M (gRI r)) (F0 m 150 ls []) := by
  intro a0 x2 x3 M r hg0 hr2 hr3 hf H locs ls hH hl
  unfold fX9_faultOf_150 at hf
  refine lv_iload_n hM.fx.1 hM.fx.2.1 dX9_faultOf_150 rfl (lv_at hl 1 rfl) ?_
  obtain ⟨x_2, ex_2, hf⟩ := gbd hf
  refine r_go1 hH rfl (r_runS (As := [.int (gi x2)]) hM hH cs_X9_241 (mX9_isSum hLC hM.ns hr2 ex_2) rfl hl.1 rfl (Nat.le_of_ble_eq_true rfl) ⟨(Nat.le_of_ble_eq_true rfl), (Nat.le_of_ble_eq_true rfl)⟩ ⟨(Nat.le_of_ble_eq_true rfl), (Nat.le_of_ble_eq_true rfl)⟩ dX9_faultOf_151) (fun hp_1 H locs hH => ?_)
  refine r_if_ne (tgt := 159) hM.fx (gz_r hp_1) dX9_faultOf_154 (by decide) (fun h_3 => ?_) (fun h_3 => ?_)
  · have hf := gneg' h_3 hf
    refine lv_aload_n hM.fx.1 hM.fx.2.1 dX9_faultOf_159 rfl (lv_at hl 0 rfl) ?_
    refine lv_iload_n hM.fx.1 hM.fx.2.1 dX9_faultOf_160 rfl (lv_at hl 2 rfl) ?_
    refine lv_iload_n hM.fx.1 hM.fx.2.1 dX9_faultOf_161 rfl (lv_at hl 1 rfl) ?_
    obtain ⟨x_5, ex_5, hf⟩ := gbd hf
    refine r_go1 hH rfl (r_runV (As := [.int (gi x3), .int (gi x2)]) hM hH cv_X9_244 (mX9_resultOf hLC hM.ns hg0 hr3 hr2 ex_5) (hLC.in hg0 (by decide)) (by decide) rfl rfl rfl hl.1 rfl (Nat.le_of_ble_eq_true rfl) ⟨(Nat.le_of_ble_eq_true rfl), (Nat.le_of_ble_eq_true rfl)⟩ ⟨(Nat.le_of_ble_eq_true rfl), (Nat.le_of_ble_eq_true rfl)⟩ dX9_faultOf_162) (fun hp_4 H locs hH => ?_)
    refine lv_lstore (lv' := [(5, .long (gj x_5)), (0, .ref (w.1 + a0)), (2, .int (gi x2)), (3, .int (gi x3))]) hM.fx.1 hM.fx.2.1 dX9_faultOf_165 hl (by decide) rfl (fun ls hl => ?_)
    refine lv_lload hM.fx.1 hM.fx.2.1 dX9_faultOf_167 (lv_at hl 0 rfl) ?_
    refine r_ldc2 (x := -999999) hM.fx gw_1492 (by decide) dX9_faultOf_169 ?_
    refine r_lcmp hM.fx hp_4 (by unfold gRL; omega) dX9_faultOf_172 ?_
    refine r_if_lt (tgt := 185) hM.fx (glcmp_r _ _) dX9_faultOf_173 (by decide) (fun h_6 => ?_) (fun h_6 => ?_)
    · have hf := gpos h_6 hf
      refine lv_bipush (v := gi (6)) hM.fx.1 hM.fx.2.1 dX9_faultOf_185 (by decide) ?_
      refine lv_goto (tgt := 191) hM.fx.1 hM.fx.2.1 dX9_faultOf_187 (by decide) ?_
      obtain rfl := Option.some.inj hf
      exact r_iret hM hH (gcR (k := 6) (by decide)) ⟨(Nat.le_of_ble_eq_true rfl), (Nat.le_of_ble_eq_true rfl)⟩ dX9_faultOf_191
    · have hf := gneg' h_6 hf
      refine lv_lload hM.fx.1 hM.fx.2.1 dX9_faultOf_176 (lv_at hl 0 rfl) ?_
      refine r_ldc2 (x := 999999) hM.fx gw_1493 (by decide) dX9_faultOf_178 ?_
      refine r_lcmp hM.fx hp_4 (by unfold gRL; omega) dX9_faultOf_181 ?_
      refine r_if_le (tgt := 190) hM.fx (glcmp_r _ _) dX9_faultOf_182 (by decide) (fun h_7 => ?_) (fun h_7 => ?_)
      · have hf := gpos h_7 hf
        refine lv_iconst (v := gi (0)) hM.fx.1 hM.fx.2.1 dX9_faultOf_190 rfl ?_
        obtain rfl := Option.some.inj hf
        exact r_iret hM hH (gcR (k := 0) (by decide)) ⟨(Nat.le_of_ble_eq_true rfl), (Nat.le_of_ble_eq_true rfl)⟩ dX9_faultOf_191
      · have hf := gneg' h_7 hf
        refine lv_bipush (v := gi (6)) hM.fx.1 hM.fx.2.1 dX9_faultOf_185 (by decide) ?_
        refine lv_goto (tgt := 191) hM.fx.1 hM.fx.2.1 dX9_faultOf_187 (by decide) ?_
        obtain rfl := Option.some.inj hf
        exact r_iret hM hH (gcR (k := 6) (by decide)) ⟨(Nat.le_of_ble_eq_true rfl), (Nat.le_of_ble_eq_true rfl)⟩ dX9_faultOf_191
  · have hf := gpos h_3 hf
    refine lv_iconst (v := gi (0)) hM.fx.1 hM.fx.2.1 dX9_faultOf_157 rfl ?_
    obtain rfl := Option.some.inj hf
    exact r_iret hM hH (gcR (k := 0) (by decide)) ⟨(Nat.le_of_ble_eq_true rfl), (Nat.le_of_ble_eq_true rfl)⟩ dX9_faultOf_158
def fX9_faultOf_133 (g : Nat → Nat)  (a0 : Nat) (x2 : Int) (x3 : Int) (M : gMem) : Option Int :=
  (fX9_ofStack g a0 x3 1 M).bind fun x_2 => (fX9_ofStack g a0 x3 0 M).bind fun x_4 => if x_2 = x_4 then (some 5) else (fX9_faultOf_150 g a0 x2 x3 M)
set_option maxHeartbeats 4000000 in
set_option maxRecDepth 100000 in
theorem wX9_faultOf_133 {w : gW} {n : Nat} {Rm : Nat → Nat → Nat} {g : Nat → Nat} (hLC : gLC g n Rm) {p : Program} {l : Launch} {e : Env} {s : State} {m : MethodId} {args : Array Value} {below : List Frame} {meth : Method} {c : Code} (hM : gMC w p l s m args meth c cX9_faultOf 7 RX9 (some .int))  : ∀ (a0 : Nat) (x2 : Int) (x3 : Int) (M : gMem) (r : Int) (hg0 : g a0 = 9) (hr2 : gRI x2) (hr3 : gRI x3) (hf : fX9_faultOf_133 g a0 x2 x3 M = some r) (H : Heap) (locs : List Loc) (ls : Array Slot) (hH : gH w n Rm M s H locs) (hl : lv_has ls 7 [(0, .ref (w.1 + a0)), (2, .int (gi x2)), (3, .int (gi x3))]), W p l e { frames := 4, cells := 0, slots := 0, locals := 130 } s m args below meth c H locs 0 0 (gQ w n Rm below args s 0 0 (.inr (some (.int (gi r)))) M (gRI r)) (F0 m 133 ls []) := by
  intro a0 x2 x3 M r hg0 hr2 hr3 hf H locs ls hH hl
  unfold fX9_faultOf_133 at hf
  refine lv_aload_n hM.fx.1 hM.fx.2.1 dX9_faultOf_133 rfl (lv_at hl 0 rfl) ?_
  refine lv_iload_n hM.fx.1 hM.fx.2.1 dX9_faultOf_134 rfl (lv_at hl 2 rfl) ?_
  refine lv_iconst (v := gi (1)) hM.fx.1 hM.fx.2.1 dX9_faultOf_135 rfl ?_
  obtain ⟨x_2, ex_2, hf⟩ := gbd hf
  refine r_go1 hH rfl (r_runV (As := [.int (gi x3), .int (gi 1)]) hM hH cv_X9_232 (mX9_ofStack hLC hM.ns hg0 hr3 (gcR (k := 1) (by decide)) ex_2) (hLC.in hg0 (by decide)) (by decide) rfl rfl rfl hl.1 rfl (Nat.le_of_ble_eq_true rfl) ⟨(Nat.le_of_ble_eq_true rfl), (Nat.le_of_ble_eq_true rfl)⟩ ⟨(Nat.le_of_ble_eq_true rfl), (Nat.le_of_ble_eq_true rfl)⟩ dX9_faultOf_136) (fun hp_1 H locs hH => ?_)
  refine lv_aload_n hM.fx.1 hM.fx.2.1 dX9_faultOf_139 rfl (lv_at hl 0 rfl) ?_
  refine lv_iload_n hM.fx.1 hM.fx.2.1 dX9_faultOf_140 rfl (lv_at hl 2 rfl) ?_
  refine lv_iconst (v := gi (0)) hM.fx.1 hM.fx.2.1 dX9_faultOf_141 rfl ?_
  obtain ⟨x_4, ex_4, hf⟩ := gbd hf
  refine r_go1 hH rfl (r_runV (As := [.int (gi x3), .int (gi 0)]) hM hH cv_X9_232 (mX9_ofStack hLC hM.ns hg0 hr3 (gcR (k := 0) (by decide)) ex_4) (hLC.in hg0 (by decide)) (by decide) rfl rfl rfl hl.1 rfl (Nat.le_of_ble_eq_true rfl) ⟨(Nat.le_of_ble_eq_true rfl), (Nat.le_of_ble_eq_true rfl)⟩ ⟨(Nat.le_of_ble_eq_true rfl), (Nat.le_of_ble_eq_true rfl)⟩ dX9_faultOf_142) (fun hp_3 H locs hH => ?_)
  refine r_icmp_ne (tgt := 150) hM.fx hp_1 hp_3 dX9_faultOf_145 (by decide) (fun h_5 => ?_) (fun h_5 => ?_)
  · have hf := gneg' h_5 hf
    exact wX9_faultOf_150 hLC hM   _ _ _ _ _ hg0 hr2 hr3 hf _ _ _ hH hl
  · have hf := gpos h_5 hf
    refine lv_iconst (v := gi (5)) hM.fx.1 hM.fx.2.1 dX9_faultOf_148 rfl ?_
    obtain rfl := Option.some.inj hf
    exact r_iret hM hH (gcR (k := 5) (by decide)) ⟨(Nat.le_of_ble_eq_true rfl), (Nat.le_of_ble_eq_true rfl)⟩ dX9_faultOf_149
def fX9_faultOf_124 (g : Nat → Nat)  (a0 : Nat) (x2 : Int) (x3 : Int) (M : gMem) : Option Int :=
  if x2 = 0 then (fX9_faultOf_133 g a0 x2 x3 M) else (if x2 = 2 then (fX9_faultOf_133 g a0 x2 x3 M) else (fX9_faultOf_150 g a0 x2 x3 M))
set_option maxHeartbeats 4000000 in
set_option maxRecDepth 100000 in
theorem wX9_faultOf_124 {w : gW} {n : Nat} {Rm : Nat → Nat → Nat} {g : Nat → Nat} (hLC : gLC g n Rm) {p : Program} {l : Launch} {e : Env} {s : State} {m : MethodId} {args : Array Value} {below : List Frame} {meth : Method} {c : Code} (hM : gMC w p l s m args meth c cX9_faultOf 7 RX9 (some .int))  : ∀ (a0 : Nat) (x2 : Int) (x3 : Int) (M : gMem) (r : Int) (hg0 : g a0 = 9) (hr2 : gRI x2) (hr3 : gRI x3) (hf : fX9_faultOf_124 g a0 x2 x3 M = some r) (H : Heap) (locs : List Loc) (ls : Array Slot) (hH : gH w n Rm M s H locs) (hl : lv_has ls 7 [(0, .ref (w.1 + a0)), (2, .int (gi x2)), (3, .int (gi x3))]), W p l e { frames := 4, cells := 0, slots := 0, locals := 130 } s m args below meth c H locs 0 0 (gQ w n Rm below args s 0 0 (.inr (some (.int (gi r)))) M (gRI r)) (F0 m 124 ls []) := by
  intro a0 x2 x3 M r hg0 hr2 hr3 hf H locs ls hH hl
  unfold fX9_faultOf_124 at hf
  refine lv_iload_n hM.fx.1 hM.fx.2.1 dX9_faultOf_124 rfl (lv_at hl 1 rfl) ?_
  refine r_if_eq (tgt := 133) hM.fx hr2 dX9_faultOf_125 (by decide) (fun h_1 => ?_) (fun h_1 => ?_)
  · have hf := gpos h_1 hf
    exact wX9_faultOf_133 hLC hM   _ _ _ _ _ hg0 hr2 hr3 hf _ _ _ hH hl
  · have hf := gneg' h_1 hf
    refine lv_iload_n hM.fx.1 hM.fx.2.1 dX9_faultOf_128 rfl (lv_at hl 1 rfl) ?_
    refine lv_iconst (v := gi (2)) hM.fx.1 hM.fx.2.1 dX9_faultOf_129 rfl ?_
    refine r_icmp_ne (tgt := 150) hM.fx hr2 (gcR (k := 2) (by decide)) dX9_faultOf_130 (by decide) (fun h_2 => ?_) (fun h_2 => ?_)
    · have hf := gneg' h_2 hf
      exact wX9_faultOf_150 hLC hM   _ _ _ _ _ hg0 hr2 hr3 hf _ _ _ hH hl
    · have hf := gpos h_2 hf
      exact wX9_faultOf_133 hLC hM   _ _ _ _ _ hg0 hr2 hr3 hf _ _ _ hH hl
def fX9_faultOf_102 (g : Nat → Nat)  (a0 : Nat) (x2 : Int) (x3 : Int) (M : gMem) : Option Int :=
  (fX9_neededBy g x2).bind fun x_2 => if x_2 ≤ 0 then (fX9_faultOf_124 g a0 x2 x3 M) else ((fX9_ofStack g a0 x3 1 M).bind fun x_5 => (fX9_neededBy g x2).bind fun x_7 => if x_7 ≤ x_5 then (fX9_faultOf_124 g a0 x2 x3 M) else (some 4))
set_option maxHeartbeats 4000000 in
set_option maxRecDepth 100000 in
theorem wX9_faultOf_102 {w : gW} {n : Nat} {Rm : Nat → Nat → Nat} {g : Nat → Nat} (hLC : gLC g n Rm) {p : Program} {l : Launch} {e : Env} {s : State} {m : MethodId} {args : Array Value} {below : List Frame} {meth : Method} {c : Code} (hM : gMC w p l s m args meth c cX9_faultOf 7 RX9 (some .int))  : ∀ (a0 : Nat) (x2 : Int) (x3 : Int) (M : gMem) (r : Int) (hg0 : g a0 = 9) (hr2 : gRI x2) (hr3 : gRI x3) (hf : fX9_faultOf_102 g a0 x2 x3 M = some r) (H : Heap) (locs : List Loc) (ls : Array Slot) (hH : gH w n Rm M s H locs) (hl : lv_has ls 7 [(0, .ref (w.1 + a0)), (2, .int (gi x2)), (3, .int (gi x3))]), W p l e { frames := 4, cells := 0, slots := 0, locals := 130 } s m args below meth c H locs 0 0 (gQ w n Rm below args s 0 0 (.inr (some (.int (gi r)))) M (gRI r)) (F0 m 102 ls []) := by
  intro a0 x2 x3 M r hg0 hr2 hr3 hf H locs ls hH hl
  unfold fX9_faultOf_102 at hf
  refine lv_iload_n hM.fx.1 hM.fx.2.1 dX9_faultOf_102 rfl (lv_at hl 1 rfl) ?_
  obtain ⟨x_2, ex_2, hf⟩ := gbd hf
  refine r_go1 hH rfl (r_runS (As := [.int (gi x2)]) hM hH cs_X9_238 (mX9_neededBy hLC hM.ns hr2 ex_2) rfl hl.1 rfl (Nat.le_of_ble_eq_true rfl) ⟨(Nat.le_of_ble_eq_true rfl), (Nat.le_of_ble_eq_true rfl)⟩ ⟨(Nat.le_of_ble_eq_true rfl), (Nat.le_of_ble_eq_true rfl)⟩ dX9_faultOf_103) (fun hp_1 H locs hH => ?_)
  refine r_if_le (tgt := 124) hM.fx hp_1 dX9_faultOf_106 (by decide) (fun h_3 => ?_) (fun h_3 => ?_)
  · have hf := gpos h_3 hf
    exact wX9_faultOf_124 hLC hM   _ _ _ _ _ hg0 hr2 hr3 hf _ _ _ hH hl
  · have hf := gneg' h_3 hf
    refine lv_aload_n hM.fx.1 hM.fx.2.1 dX9_faultOf_109 rfl (lv_at hl 0 rfl) ?_
    refine lv_iload_n hM.fx.1 hM.fx.2.1 dX9_faultOf_110 rfl (lv_at hl 2 rfl) ?_
    refine lv_iconst (v := gi (1)) hM.fx.1 hM.fx.2.1 dX9_faultOf_111 rfl ?_
    obtain ⟨x_5, ex_5, hf⟩ := gbd hf
    refine r_go1 hH rfl (r_runV (As := [.int (gi x3), .int (gi 1)]) hM hH cv_X9_232 (mX9_ofStack hLC hM.ns hg0 hr3 (gcR (k := 1) (by decide)) ex_5) (hLC.in hg0 (by decide)) (by decide) rfl rfl rfl hl.1 rfl (Nat.le_of_ble_eq_true rfl) ⟨(Nat.le_of_ble_eq_true rfl), (Nat.le_of_ble_eq_true rfl)⟩ ⟨(Nat.le_of_ble_eq_true rfl), (Nat.le_of_ble_eq_true rfl)⟩ dX9_faultOf_112) (fun hp_4 H locs hH => ?_)
    refine lv_iload_n hM.fx.1 hM.fx.2.1 dX9_faultOf_115 rfl (lv_at hl 1 rfl) ?_
    obtain ⟨x_7, ex_7, hf⟩ := gbd hf
    refine r_go1 hH rfl (r_runS (As := [.int (gi x2)]) hM hH cs_X9_238 (mX9_neededBy hLC hM.ns hr2 ex_7) rfl hl.1 rfl (Nat.le_of_ble_eq_true rfl) ⟨(Nat.le_of_ble_eq_true rfl), (Nat.le_of_ble_eq_true rfl)⟩ ⟨(Nat.le_of_ble_eq_true rfl), (Nat.le_of_ble_eq_true rfl)⟩ dX9_faultOf_116) (fun hp_6 H locs hH => ?_)
    refine r_icmp_ge (tgt := 124) hM.fx hp_4 hp_6 dX9_faultOf_119 (by decide) (fun h_8 => ?_) (fun h_8 => ?_)
    · have hf := gpos h_8 hf
      exact wX9_faultOf_124 hLC hM   _ _ _ _ _ hg0 hr2 hr3 hf _ _ _ hH hl
    · have hf := gneg' h_8 hf
      refine lv_iconst (v := gi (4)) hM.fx.1 hM.fx.2.1 dX9_faultOf_122 rfl ?_
      obtain rfl := Option.some.inj hf
      exact r_iret hM hH (gcR (k := 4) (by decide)) ⟨(Nat.le_of_ble_eq_true rfl), (Nat.le_of_ble_eq_true rfl)⟩ dX9_faultOf_123
def fX9_faultOf_89 (g : Nat → Nat)  (a0 : Nat) (x2 : Int) (x3 : Int) (M : gMem) : Option Int :=
  if x2 = 9 then (if x3 = (-1) then (fX9_faultOf_102 g a0 x2 x3 M) else (some 3)) else (fX9_faultOf_102 g a0 x2 x3 M)
set_option maxHeartbeats 4000000 in
set_option maxRecDepth 100000 in
theorem wX9_faultOf_89 {w : gW} {n : Nat} {Rm : Nat → Nat → Nat} {g : Nat → Nat} (hLC : gLC g n Rm) {p : Program} {l : Launch} {e : Env} {s : State} {m : MethodId} {args : Array Value} {below : List Frame} {meth : Method} {c : Code} (hM : gMC w p l s m args meth c cX9_faultOf 7 RX9 (some .int))  : ∀ (a0 : Nat) (x2 : Int) (x3 : Int) (M : gMem) (r : Int) (hg0 : g a0 = 9) (hr2 : gRI x2) (hr3 : gRI x3) (hf : fX9_faultOf_89 g a0 x2 x3 M = some r) (H : Heap) (locs : List Loc) (ls : Array Slot) (hH : gH w n Rm M s H locs) (hl : lv_has ls 7 [(0, .ref (w.1 + a0)), (2, .int (gi x2)), (3, .int (gi x3))]), W p l e { frames := 4, cells := 0, slots := 0, locals := 130 } s m args below meth c H locs 0 0 (gQ w n Rm below args s 0 0 (.inr (some (.int (gi r)))) M (gRI r)) (F0 m 89 ls []) := by
  intro a0 x2 x3 M r hg0 hr2 hr3 hf H locs ls hH hl
  unfold fX9_faultOf_89 at hf
  refine lv_iload_n hM.fx.1 hM.fx.2.1 dX9_faultOf_89 rfl (lv_at hl 1 rfl) ?_
  refine lv_bipush (v := gi (9)) hM.fx.1 hM.fx.2.1 dX9_faultOf_90 (by decide) ?_
  refine r_icmp_ne (tgt := 102) hM.fx hr2 (gcR (k := 9) (by decide)) dX9_faultOf_92 (by decide) (fun h_1 => ?_) (fun h_1 => ?_)
  · have hf := gneg' h_1 hf
    exact wX9_faultOf_102 hLC hM   _ _ _ _ _ hg0 hr2 hr3 hf _ _ _ hH hl
  · have hf := gpos h_1 hf
    refine lv_iload_n hM.fx.1 hM.fx.2.1 dX9_faultOf_95 rfl (lv_at hl 2 rfl) ?_
    refine lv_iconst (v := gi (-1)) hM.fx.1 hM.fx.2.1 dX9_faultOf_96 rfl ?_
    refine r_icmp_eq (tgt := 102) hM.fx hr3 (gcR (k := -1) (by decide)) dX9_faultOf_97 (by decide) (fun h_2 => ?_) (fun h_2 => ?_)
    · have hf := gpos h_2 hf
      exact wX9_faultOf_102 hLC hM   _ _ _ _ _ hg0 hr2 hr3 hf _ _ _ hH hl
    · have hf := gneg' h_2 hf
      refine lv_iconst (v := gi (3)) hM.fx.1 hM.fx.2.1 dX9_faultOf_100 rfl ?_
      obtain rfl := Option.some.inj hf
      exact r_iret hM hH (gcR (k := 3) (by decide)) ⟨(Nat.le_of_ble_eq_true rfl), (Nat.le_of_ble_eq_true rfl)⟩ dX9_faultOf_101
def fX9_faultOf_58 (g : Nat → Nat)  (a0 : Nat) (x1 : Int) (x2 : Int) (x3 : Int) (M : gMem) : Option Int :=
  (fX9_isOfSlot g x2).bind fun x_2 => if x_2 = 0 then (fX9_faultOf_89 g a0 x2 x3 M) else ((fX9_of g a0 x1 2 M).bind fun x_5 => (fX9_of g a0 x1 (gwi (42 + x_5)) M).bind fun x_7 => (fX9_mayUse g a0 x1 x_7 M).bind fun x_9 => if x_9 = 0 then (some 2) else (fX9_faultOf_89 g a0 x2 x3 M))
set_option maxHeartbeats 4000000 in
set_option maxRecDepth 100000 in
theorem wX9_faultOf_58 {w : gW} {n : Nat} {Rm : Nat → Nat → Nat} {g : Nat → Nat} (hLC : gLC g n Rm) {p : Program} {l : Launch} {e : Env} {s : State} {m : MethodId} {args : Array Value} {below : List Frame} {meth : Method} {c : Code} (hM : gMC w p l s m args meth c cX9_faultOf 7 RX9 (some .int))  : ∀ (a0 : Nat) (x1 : Int) (x2 : Int) (x3 : Int) (M : gMem) (r : Int) (hg0 : g a0 = 9) (hr1 : gRI x1) (hr2 : gRI x2) (hr3 : gRI x3) (hf : fX9_faultOf_58 g a0 x1 x2 x3 M = some r) (H : Heap) (locs : List Loc) (ls : Array Slot) (hH : gH w n Rm M s H locs) (hl : lv_has ls 7 [(0, .ref (w.1 + a0)), (1, .int (gi x1)), (2, .int (gi x2)), (3, .int (gi x3))]), W p l e { frames := 4, cells := 0, slots := 0, locals := 130 } s m args below meth c H locs 0 0 (gQ w n Rm below args s 0 0 (.inr (some (.int (gi r)))) M (gRI r)) (F0 m 58 ls []) := by
  intro a0 x1 x2 x3 M r hg0 hr1 hr2 hr3 hf H locs ls hH hl
  unfold fX9_faultOf_58 at hf
  refine lv_iload_n hM.fx.1 hM.fx.2.1 dX9_faultOf_58 rfl (lv_at hl 2 rfl) ?_
  obtain ⟨x_2, ex_2, hf⟩ := gbd hf
  refine r_go1 hH rfl (r_runS (As := [.int (gi x2)]) hM hH cs_X9_181 (mX9_isOfSlot hLC hM.ns hr2 ex_2) rfl hl.1 rfl (Nat.le_of_ble_eq_true rfl) ⟨(Nat.le_of_ble_eq_true rfl), (Nat.le_of_ble_eq_true rfl)⟩ ⟨(Nat.le_of_ble_eq_true rfl), (Nat.le_of_ble_eq_true rfl)⟩ dX9_faultOf_59) (fun hp_1 H locs hH => ?_)
  refine r_if_eq (tgt := 89) hM.fx (gz_r hp_1) dX9_faultOf_62 (by decide) (fun h_3 => ?_) (fun h_3 => ?_)
  · have hf := gpos h_3 hf
    exact wX9_faultOf_89 hLC hM   _ _ _ _ _ hg0 hr2 hr3 hf _ _ _ hH (lv_sub hl [0, 2, 3] rfl)
  · have hf := gneg' h_3 hf
    refine lv_aload_n hM.fx.1 hM.fx.2.1 dX9_faultOf_65 rfl (lv_at hl 0 rfl) ?_
    refine lv_iload_n hM.fx.1 hM.fx.2.1 dX9_faultOf_66 rfl (lv_at hl 1 rfl) ?_
    refine lv_aload_n hM.fx.1 hM.fx.2.1 dX9_faultOf_67 rfl (lv_at hl 0 rfl) ?_
    refine lv_iload_n hM.fx.1 hM.fx.2.1 dX9_faultOf_68 rfl (lv_at hl 1 rfl) ?_
    refine lv_bipush (v := gi (42)) hM.fx.1 hM.fx.2.1 dX9_faultOf_69 (by decide) ?_
    refine lv_aload_n hM.fx.1 hM.fx.2.1 dX9_faultOf_71 rfl (lv_at hl 0 rfl) ?_
    refine lv_iload_n hM.fx.1 hM.fx.2.1 dX9_faultOf_72 rfl (lv_at hl 1 rfl) ?_
    refine lv_iconst (v := gi (2)) hM.fx.1 hM.fx.2.1 dX9_faultOf_73 rfl ?_
    obtain ⟨x_5, ex_5, hf⟩ := gbd hf
    refine r_go1 hH rfl (r_runV (As := [.int (gi x1), .int (gi 2)]) hM hH cv_X9_135 (mX9_of hLC hM.ns hg0 hr1 (gcR (k := 2) (by decide)) ex_5) (hLC.in hg0 (by decide)) (by decide) rfl rfl rfl hl.1 rfl (Nat.le_of_ble_eq_true rfl) ⟨(Nat.le_of_ble_eq_true rfl), (Nat.le_of_ble_eq_true rfl)⟩ ⟨(Nat.le_of_ble_eq_true rfl), (Nat.le_of_ble_eq_true rfl)⟩ dX9_faultOf_74) (fun hp_4 H locs hH => ?_)
    refine r_iadd hM.fx dX9_faultOf_77 ?_
    obtain ⟨x_7, ex_7, hf⟩ := gbd hf
    refine r_go1 hH rfl (r_runV (As := [.int (gi x1), .int (gi (gwi (42 + x_5)))]) hM hH cv_X9_135 (mX9_of hLC hM.ns hg0 hr1 (gwi_r _) ex_7) (hLC.in hg0 (by decide)) (by decide) rfl rfl rfl hl.1 rfl (Nat.le_of_ble_eq_true rfl) ⟨(Nat.le_of_ble_eq_true rfl), (Nat.le_of_ble_eq_true rfl)⟩ ⟨(Nat.le_of_ble_eq_true rfl), (Nat.le_of_ble_eq_true rfl)⟩ dX9_faultOf_78) (fun hp_6 H locs hH => ?_)
    obtain ⟨x_9, ex_9, hf⟩ := gbd hf
    refine r_go1 hH rfl (r_runV (As := [.int (gi x1), .int (gi x_7)]) hM hH cv_X9_206 (mX9_mayUse hLC hM.ns hg0 hr1 hp_6 ex_9) (hLC.in hg0 (by decide)) (by decide) rfl rfl rfl hl.1 rfl (Nat.le_of_ble_eq_true rfl) ⟨(Nat.le_of_ble_eq_true rfl), (Nat.le_of_ble_eq_true rfl)⟩ ⟨(Nat.le_of_ble_eq_true rfl), (Nat.le_of_ble_eq_true rfl)⟩ dX9_faultOf_81) (fun hp_8 H locs hH => ?_)
    refine r_if_ne (tgt := 89) hM.fx (gz_r hp_8) dX9_faultOf_84 (by decide) (fun h_10 => ?_) (fun h_10 => ?_)
    · have hf := gneg' h_10 hf
      exact wX9_faultOf_89 hLC hM   _ _ _ _ _ hg0 hr2 hr3 hf _ _ _ hH (lv_sub hl [0, 2, 3] rfl)
    · have hf := gpos h_10 hf
      refine lv_iconst (v := gi (2)) hM.fx.1 hM.fx.2.1 dX9_faultOf_87 rfl ?_
      obtain rfl := Option.some.inj hf
      exact r_iret hM hH (gcR (k := 2) (by decide)) ⟨(Nat.le_of_ble_eq_true rfl), (Nat.le_of_ble_eq_true rfl)⟩ dX9_faultOf_88
def fX9_faultOf_44 (g : Nat → Nat)  (a0 : Nat) (x1 : Int) (x2 : Int) (x3 : Int) (xs0 : Int) (M : gMem) : Option Int :=
  if xs0 = 0 then (fX9_faultOf_58 g a0 x1 x2 x3 M) else (if x3 = (-1) then (some 1) else (fX9_faultOf_58 g a0 x1 x2 x3 M))
set_option maxHeartbeats 4000000 in
set_option maxRecDepth 100000 in
theorem wX9_faultOf_44 {w : gW} {n : Nat} {Rm : Nat → Nat → Nat} {g : Nat → Nat} (hLC : gLC g n Rm) {p : Program} {l : Launch} {e : Env} {s : State} {m : MethodId} {args : Array Value} {below : List Frame} {meth : Method} {c : Code} (hM : gMC w p l s m args meth c cX9_faultOf 7 RX9 (some .int))  : ∀ (a0 : Nat) (x1 : Int) (x2 : Int) (x3 : Int) (xs0 : Int) (M : gMem) (r : Int) (hg0 : g a0 = 9) (hr1 : gRI x1) (hr2 : gRI x2) (hr3 : gRI x3) (hrs0 : gRI xs0) (hf : fX9_faultOf_44 g a0 x1 x2 x3 xs0 M = some r) (H : Heap) (locs : List Loc) (ls : Array Slot) (hH : gH w n Rm M s H locs) (hl : lv_has ls 7 [(0, .ref (w.1 + a0)), (1, .int (gi x1)), (2, .int (gi x2)), (3, .int (gi x3))]), W p l e { frames := 4, cells := 0, slots := 0, locals := 130 } s m args below meth c H locs 0 0 (gQ w n Rm below args s 0 0 (.inr (some (.int (gi r)))) M (gRI r)) (F0 m 44 ls [.int (gi xs0)]) := by
  intro a0 x1 x2 x3 xs0 M r hg0 hr1 hr2 hr3 hrs0 hf H locs ls hH hl
  unfold fX9_faultOf_44 at hf
  refine lv_istore (lv' := [(4, .int (gi xs0)), (0, .ref (w.1 + a0)), (1, .int (gi x1)), (2, .int (gi x2)), (3, .int (gi x3))]) hM.fx.1 hM.fx.2.1 dX9_faultOf_44 hl (by decide) rfl (fun ls hl => ?_)
  refine lv_iload hM.fx.1 hM.fx.2.1 dX9_faultOf_46 (lv_at hl 0 rfl) ?_
  refine r_if_eq (tgt := 58) hM.fx hrs0 dX9_faultOf_48 (by decide) (fun h_1 => ?_) (fun h_1 => ?_)
  · have hf := gpos h_1 hf
    exact wX9_faultOf_58 hLC hM   _ _ _ _ _ _ hg0 hr1 hr2 hr3 hf _ _ _ hH (lv_sub hl [1, 2, 3, 4] rfl)
  · have hf := gneg' h_1 hf
    refine lv_iload_n hM.fx.1 hM.fx.2.1 dX9_faultOf_51 rfl (lv_at hl 4 rfl) ?_
    refine lv_iconst (v := gi (-1)) hM.fx.1 hM.fx.2.1 dX9_faultOf_52 rfl ?_
    refine r_icmp_ne (tgt := 58) hM.fx hr3 (gcR (k := -1) (by decide)) dX9_faultOf_53 (by decide) (fun h_2 => ?_) (fun h_2 => ?_)
    · have hf := gneg' h_2 hf
      exact wX9_faultOf_58 hLC hM   _ _ _ _ _ _ hg0 hr1 hr2 hr3 hf _ _ _ hH (lv_sub hl [1, 2, 3, 4] rfl)
    · have hf := gpos h_2 hf
      refine lv_iconst (v := gi (1)) hM.fx.1 hM.fx.2.1 dX9_faultOf_56 rfl ?_
      obtain rfl := Option.some.inj hf
      exact r_iret hM hH (gcR (k := 1) (by decide)) ⟨(Nat.le_of_ble_eq_true rfl), (Nat.le_of_ble_eq_true rfl)⟩ dX9_faultOf_57
def fX9_faultOf_43 (g : Nat → Nat)  (a0 : Nat) (x1 : Int) (x2 : Int) (x3 : Int) (M : gMem) : Option Int :=
  fX9_faultOf_44 g a0 x1 x2 x3 0 M
set_option maxHeartbeats 4000000 in
set_option maxRecDepth 100000 in
theorem wX9_faultOf_43 {w : gW} {n : Nat} {Rm : Nat → Nat → Nat} {g : Nat → Nat} (hLC : gLC g n Rm) {p : Program} {l : Launch} {e : Env} {s : State} {m : MethodId} {args : Array Value} {below : List Frame} {meth : Method} {c : Code} (hM : gMC w p l s m args meth c cX9_faultOf 7 RX9 (some .int))  : ∀ (a0 : Nat) (x1 : Int) (x2 : Int) (x3 : Int) (M : gMem) (r : Int) (hg0 : g a0 = 9) (hr1 : gRI x1) (hr2 : gRI x2) (hr3 : gRI x3) (hf : fX9_faultOf_43 g a0 x1 x2 x3 M = some r) (H : Heap) (locs : List Loc) (ls : Array Slot) (hH : gH w n Rm M s H locs) (hl : lv_has ls 7 [(0, .ref (w.1 + a0)), (1, .int (gi x1)), (2, .int (gi x2)), (3, .int (gi x3))]), W p l e { frames := 4, cells := 0, slots := 0, locals := 130 } s m args below meth c H locs 0 0 (gQ w n Rm below args s 0 0 (.inr (some (.int (gi r)))) M (gRI r)) (F0 m 43 ls []) := by
  intro a0 x1 x2 x3 M r hg0 hr1 hr2 hr3 hf H locs ls hH hl
  unfold fX9_faultOf_43 at hf
  refine lv_iconst (v := gi (0)) hM.fx.1 hM.fx.2.1 dX9_faultOf_43 rfl ?_
  exact wX9_faultOf_44 hLC hM   _ _ _ _ _ _ _ hg0 hr1 hr2 hr3 (gcR (k := 0) (by decide)) hf _ _ _ hH hl
def fX9_faultOf (g : Nat → Nat) (a0 : Nat) (x1 : Int) (M : gMem) : Option Int :=
  (fX9_of g a0 x1 2 M).bind fun x_2 => (fX9_of g a0 x1 (gwi (18 + x_2)) M).bind fun x_4 => (fX9_inHand g a0 x1 M).bind fun x_6 => if x_4 = 9 then (fX9_faultOf_43 g a0 x1 x_4 x_6 M) else (if x_4 = 11 then (fX9_faultOf_43 g a0 x1 x_4 x_6 M) else (if x_4 = 13 then (fX9_faultOf_43 g a0 x1 x_4 x_6 M) else (fX9_faultOf_44 g a0 x1 x_4 x_6 1 M)))
set_option maxHeartbeats 4000000 in
set_option maxRecDepth 100000 in
theorem mX9_faultOf {w : gW} {n : Nat} {Rm : Nat → Nat → Nat} {g : Nat → Nat} (hLC : gLC g n Rm) {l : Launch} (hl9 : l.stackTraces = false) {a0 : Nat} {x1 : Int} {M : gMem} {r : Int} (hg0 : g a0 = 9) (hr1 : gRI x1) (hf : fX9_faultOf g a0 x1 M = some r) : gMT w n Rm l yX9_faultOf cX9_faultOf 7 (some .int) 4 130 0 0 [.ref (w.1 + a0), .int (gi x1)] M (.inr (some (.int (gi r)))) M (gRI r) := by
  unfold fX9_faultOf at hf
  refine gMT.of hl9 (by decide +kernel) ((Nat.le_of_ble_eq_true rfl)) ?_
  intro p e s m below meth c hM hH ls hl
  have hM : gMC w p l s m ([.ref (w.1 + a0), .int (gi x1)] : List Value).toArray meth c cX9_faultOf 7 RX9 (some .int) := hM
  have hl : lv_has ls 7 [(0, .ref (w.1 + a0)), (1, .int (gi x1))] := hl
  refine lv_aload_n hM.fx.1 hM.fx.2.1 dX9_faultOf_0 rfl (lv_at hl 0 rfl) ?_
  refine lv_iload_n hM.fx.1 hM.fx.2.1 dX9_faultOf_1 rfl (lv_at hl 1 rfl) ?_
  refine lv_bipush (v := gi (18)) hM.fx.1 hM.fx.2.1 dX9_faultOf_2 (by decide) ?_
  refine lv_aload_n hM.fx.1 hM.fx.2.1 dX9_faultOf_4 rfl (lv_at hl 0 rfl) ?_
  refine lv_iload_n hM.fx.1 hM.fx.2.1 dX9_faultOf_5 rfl (lv_at hl 1 rfl) ?_
  refine lv_iconst (v := gi (2)) hM.fx.1 hM.fx.2.1 dX9_faultOf_6 rfl ?_
  obtain ⟨x_2, ex_2, hf⟩ := gbd hf
  refine r_go1 hH rfl (r_runV (As := [.int (gi x1), .int (gi 2)]) hM hH cv_X9_135 (mX9_of hLC hM.ns hg0 hr1 (gcR (k := 2) (by decide)) ex_2) (hLC.in hg0 (by decide)) (by decide) rfl rfl rfl hl.1 rfl (Nat.le_of_ble_eq_true rfl) ⟨(Nat.le_of_ble_eq_true rfl), (Nat.le_of_ble_eq_true rfl)⟩ ⟨(Nat.le_of_ble_eq_true rfl), (Nat.le_of_ble_eq_true rfl)⟩ dX9_faultOf_7) (fun hp_1 H locs hH => ?_)
  refine r_iadd hM.fx dX9_faultOf_10 ?_
  obtain ⟨x_4, ex_4, hf⟩ := gbd hf
  refine r_go1 hH rfl (r_runV (As := [.int (gi x1), .int (gi (gwi (18 + x_2)))]) hM hH cv_X9_135 (mX9_of hLC hM.ns hg0 hr1 (gwi_r _) ex_4) (hLC.in hg0 (by decide)) (by decide) rfl rfl rfl hl.1 rfl (Nat.le_of_ble_eq_true rfl) ⟨(Nat.le_of_ble_eq_true rfl), (Nat.le_of_ble_eq_true rfl)⟩ ⟨(Nat.le_of_ble_eq_true rfl), (Nat.le_of_ble_eq_true rfl)⟩ dX9_faultOf_11) (fun hp_3 H locs hH => ?_)
  refine lv_istore_n (lv' := [(2, .int (gi x_4)), (0, .ref (w.1 + a0)), (1, .int (gi x1))]) hM.fx.1 hM.fx.2.1 dX9_faultOf_14 rfl hl (by decide) rfl (fun ls hl => ?_)
  refine lv_aload_n hM.fx.1 hM.fx.2.1 dX9_faultOf_15 rfl (lv_at hl 1 rfl) ?_
  refine lv_iload_n hM.fx.1 hM.fx.2.1 dX9_faultOf_16 rfl (lv_at hl 2 rfl) ?_
  obtain ⟨x_6, ex_6, hf⟩ := gbd hf
  refine r_go1 hH rfl (r_runV (As := [.int (gi x1)]) hM hH cv_X9_212 (mX9_inHand hLC hM.ns hg0 hr1 ex_6) (hLC.in hg0 (by decide)) (by decide) rfl rfl rfl hl.1 rfl (Nat.le_of_ble_eq_true rfl) ⟨(Nat.le_of_ble_eq_true rfl), (Nat.le_of_ble_eq_true rfl)⟩ ⟨(Nat.le_of_ble_eq_true rfl), (Nat.le_of_ble_eq_true rfl)⟩ dX9_faultOf_17) (fun hp_5 H locs hH => ?_)
  refine lv_istore_n (lv' := [(3, .int (gi x_6)), (2, .int (gi x_4)), (0, .ref (w.1 + a0)), (1, .int (gi x1))]) hM.fx.1 hM.fx.2.1 dX9_faultOf_20 rfl hl (by decide) rfl (fun ls hl => ?_)
  refine lv_iload_n hM.fx.1 hM.fx.2.1 dX9_faultOf_21 rfl (lv_at hl 1 rfl) ?_
  refine lv_bipush (v := gi (9)) hM.fx.1 hM.fx.2.1 dX9_faultOf_22 (by decide) ?_
  refine r_icmp_eq (tgt := 43) hM.fx hp_3 (gcR (k := 9) (by decide)) dX9_faultOf_24 (by decide) (fun h_7 => ?_) (fun h_7 => ?_)
  · have hf := gpos h_7 hf
    exact wX9_faultOf_43 hLC hM   _ _ _ _ _ _ hg0 hr1 hp_3 hp_5 hf _ _ _ hH (lv_sub hl [2, 3, 1, 0] rfl)
  · have hf := gneg' h_7 hf
    refine lv_iload_n hM.fx.1 hM.fx.2.1 dX9_faultOf_27 rfl (lv_at hl 1 rfl) ?_
    refine lv_bipush (v := gi (11)) hM.fx.1 hM.fx.2.1 dX9_faultOf_28 (by decide) ?_
    refine r_icmp_eq (tgt := 43) hM.fx hp_3 (gcR (k := 11) (by decide)) dX9_faultOf_30 (by decide) (fun h_8 => ?_) (fun h_8 => ?_)
    · have hf := gpos h_8 hf
      exact wX9_faultOf_43 hLC hM   _ _ _ _ _ _ hg0 hr1 hp_3 hp_5 hf _ _ _ hH (lv_sub hl [2, 3, 1, 0] rfl)
    · have hf := gneg' h_8 hf
      refine lv_iload_n hM.fx.1 hM.fx.2.1 dX9_faultOf_33 rfl (lv_at hl 1 rfl) ?_
      refine lv_bipush (v := gi (13)) hM.fx.1 hM.fx.2.1 dX9_faultOf_34 (by decide) ?_
      refine r_icmp_eq (tgt := 43) hM.fx hp_3 (gcR (k := 13) (by decide)) dX9_faultOf_36 (by decide) (fun h_9 => ?_) (fun h_9 => ?_)
      · have hf := gpos h_9 hf
        exact wX9_faultOf_43 hLC hM   _ _ _ _ _ _ hg0 hr1 hp_3 hp_5 hf _ _ _ hH (lv_sub hl [2, 3, 1, 0] rfl)
      · have hf := gneg' h_9 hf
        refine lv_iconst (v := gi (1)) hM.fx.1 hM.fx.2.1 dX9_faultOf_39 rfl ?_
        refine lv_goto (tgt := 44) hM.fx.1 hM.fx.2.1 dX9_faultOf_40 (by decide) ?_
        exact wX9_faultOf_44 hLC hM   _ _ _ _ _ _ _ hg0 hr1 hp_3 hp_5 (gcR (k := 1) (by decide)) hf _ _ _ hH (lv_sub hl [2, 3, 1, 0] rfl)
def fX9_blockOf_51 (g : Nat → Nat)  (x2 : Int) (xs0 : Int) (M : gMem) : Option Int :=
  if x2 = 8 then (if xs0 = 0 then (some 0) else (some 1)) else (if xs0 = 0 then (some 2) else (some 0))
set_option maxHeartbeats 4000000 in
set_option maxRecDepth 100000 in
theorem wX9_blockOf_51 {w : gW} {n : Nat} {Rm : Nat → Nat → Nat} {g : Nat → Nat} (hLC : gLC g n Rm) {p : Program} {l : Launch} {e : Env} {s : State} {m : MethodId} {args : Array Value} {below : List Frame} {meth : Method} {c : Code} (hM : gMC w p l s m args meth c cX9_blockOf 4 RX9 (some .int))  : ∀ (x2 : Int) (xs0 : Int) (M : gMem) (r : Int) (hr2 : gRI x2) (hrs0 : gRI xs0) (hf : fX9_blockOf_51 g x2 xs0 M = some r) (H : Heap) (locs : List Loc) (ls : Array Slot) (hH : gH w n Rm M s H locs) (hl : lv_has ls 4 [(2, .int (gi x2))]), W p l e { frames := 3, cells := 0, slots := 0, locals := 104 } s m args below meth c H locs 0 0 (gQ w n Rm below args s 0 0 (.inr (some (.int (gi r)))) M (gRI r)) (F0 m 51 ls [.int (gi xs0)]) := by
  intro x2 xs0 M r hr2 hrs0 hf H locs ls hH hl
  unfold fX9_blockOf_51 at hf
  refine lv_istore_n (lv' := [(3, .int (gi xs0)), (2, .int (gi x2))]) hM.fx.1 hM.fx.2.1 dX9_blockOf_51 rfl hl (by decide) rfl (fun ls hl => ?_)
  refine lv_iload_n hM.fx.1 hM.fx.2.1 dX9_blockOf_52 rfl (lv_at hl 1 rfl) ?_
  refine lv_bipush (v := gi (8)) hM.fx.1 hM.fx.2.1 dX9_blockOf_53 (by decide) ?_
  refine r_icmp_ne (tgt := 70) hM.fx hr2 (gcR (k := 8) (by decide)) dX9_blockOf_55 (by decide) (fun h_1 => ?_) (fun h_1 => ?_)
  · have hf := gneg' h_1 hf
    refine lv_iload_n hM.fx.1 hM.fx.2.1 dX9_blockOf_70 rfl (lv_at hl 0 rfl) ?_
    refine r_if_eq (tgt := 78) hM.fx hrs0 dX9_blockOf_71 (by decide) (fun h_2 => ?_) (fun h_2 => ?_)
    · have hf := gpos h_2 hf
      refine lv_iconst (v := gi (2)) hM.fx.1 hM.fx.2.1 dX9_blockOf_78 rfl ?_
      obtain rfl := Option.some.inj hf
      exact r_iret hM hH (gcR (k := 2) (by decide)) ⟨(Nat.le_of_ble_eq_true rfl), (Nat.le_of_ble_eq_true rfl)⟩ dX9_blockOf_79
    · have hf := gneg' h_2 hf
      refine lv_iconst (v := gi (0)) hM.fx.1 hM.fx.2.1 dX9_blockOf_74 rfl ?_
      refine lv_goto (tgt := 79) hM.fx.1 hM.fx.2.1 dX9_blockOf_75 (by decide) ?_
      obtain rfl := Option.some.inj hf
      exact r_iret hM hH (gcR (k := 0) (by decide)) ⟨(Nat.le_of_ble_eq_true rfl), (Nat.le_of_ble_eq_true rfl)⟩ dX9_blockOf_79
  · have hf := gpos h_1 hf
    refine lv_iload_n hM.fx.1 hM.fx.2.1 dX9_blockOf_58 rfl (lv_at hl 0 rfl) ?_
    refine r_if_eq (tgt := 66) hM.fx hrs0 dX9_blockOf_59 (by decide) (fun h_3 => ?_) (fun h_3 => ?_)
    · have hf := gpos h_3 hf
      refine lv_iconst (v := gi (0)) hM.fx.1 hM.fx.2.1 dX9_blockOf_66 rfl ?_
      refine lv_goto (tgt := 79) hM.fx.1 hM.fx.2.1 dX9_blockOf_67 (by decide) ?_
      obtain rfl := Option.some.inj hf
      exact r_iret hM hH (gcR (k := 0) (by decide)) ⟨(Nat.le_of_ble_eq_true rfl), (Nat.le_of_ble_eq_true rfl)⟩ dX9_blockOf_79
    · have hf := gneg' h_3 hf
      refine lv_iconst (v := gi (1)) hM.fx.1 hM.fx.2.1 dX9_blockOf_62 rfl ?_
      refine lv_goto (tgt := 79) hM.fx.1 hM.fx.2.1 dX9_blockOf_63 (by decide) ?_
      obtain rfl := Option.some.inj hf
      exact r_iret hM hH (gcR (k := 1) (by decide)) ⟨(Nat.le_of_ble_eq_true rfl), (Nat.le_of_ble_eq_true rfl)⟩ dX9_blockOf_79
def fX9_blockOf (g : Nat → Nat) (a0 : Nat) (x1 : Int) (M : gMem) : Option Int :=
  (fX9_of g a0 x1 2 M).bind fun x_2 => (fX9_of g a0 x1 (gwi (18 + x_2)) M).bind fun x_4 => (fX9_isOfSlot g x_4).bind fun x_6 => if x_6 = 0 then (some 0) else ((fX9_of g a0 x1 2 M).bind fun x_9 => (fX9_of g a0 x1 (gwi (42 + x_9)) M).bind fun x_11 => (fX9_onSlot g a0 x_11 M).bind fun x_13 => if x_13 = (-1) then (fX9_blockOf_51 g x_4 0 M) else (fX9_blockOf_51 g x_4 1 M))
set_option maxHeartbeats 4000000 in
set_option maxRecDepth 100000 in
theorem mX9_blockOf {w : gW} {n : Nat} {Rm : Nat → Nat → Nat} {g : Nat → Nat} (hLC : gLC g n Rm) {l : Launch} (hl9 : l.stackTraces = false) {a0 : Nat} {x1 : Int} {M : gMem} {r : Int} (hg0 : g a0 = 9) (hr1 : gRI x1) (hf : fX9_blockOf g a0 x1 M = some r) : gMT w n Rm l yX9_blockOf cX9_blockOf 4 (some .int) 3 104 0 0 [.ref (w.1 + a0), .int (gi x1)] M (.inr (some (.int (gi r)))) M (gRI r) := by
  unfold fX9_blockOf at hf
  refine gMT.of hl9 (by decide +kernel) ((Nat.le_of_ble_eq_true rfl)) ?_
  intro p e s m below meth c hM hH ls hl
  have hM : gMC w p l s m ([.ref (w.1 + a0), .int (gi x1)] : List Value).toArray meth c cX9_blockOf 4 RX9 (some .int) := hM
  have hl : lv_has ls 4 [(0, .ref (w.1 + a0)), (1, .int (gi x1))] := hl
  refine lv_aload_n hM.fx.1 hM.fx.2.1 dX9_blockOf_0 rfl (lv_at hl 0 rfl) ?_
  refine lv_iload_n hM.fx.1 hM.fx.2.1 dX9_blockOf_1 rfl (lv_at hl 1 rfl) ?_
  refine lv_bipush (v := gi (18)) hM.fx.1 hM.fx.2.1 dX9_blockOf_2 (by decide) ?_
  refine lv_aload_n hM.fx.1 hM.fx.2.1 dX9_blockOf_4 rfl (lv_at hl 0 rfl) ?_
  refine lv_iload_n hM.fx.1 hM.fx.2.1 dX9_blockOf_5 rfl (lv_at hl 1 rfl) ?_
  refine lv_iconst (v := gi (2)) hM.fx.1 hM.fx.2.1 dX9_blockOf_6 rfl ?_
  obtain ⟨x_2, ex_2, hf⟩ := gbd hf
  refine r_go1 hH rfl (r_runV (As := [.int (gi x1), .int (gi 2)]) hM hH cv_X9_135 (mX9_of hLC hM.ns hg0 hr1 (gcR (k := 2) (by decide)) ex_2) (hLC.in hg0 (by decide)) (by decide) rfl rfl rfl hl.1 rfl (Nat.le_of_ble_eq_true rfl) ⟨(Nat.le_of_ble_eq_true rfl), (Nat.le_of_ble_eq_true rfl)⟩ ⟨(Nat.le_of_ble_eq_true rfl), (Nat.le_of_ble_eq_true rfl)⟩ dX9_blockOf_7) (fun hp_1 H locs hH => ?_)
  refine r_iadd hM.fx dX9_blockOf_10 ?_
  obtain ⟨x_4, ex_4, hf⟩ := gbd hf
  refine r_go1 hH rfl (r_runV (As := [.int (gi x1), .int (gi (gwi (18 + x_2)))]) hM hH cv_X9_135 (mX9_of hLC hM.ns hg0 hr1 (gwi_r _) ex_4) (hLC.in hg0 (by decide)) (by decide) rfl rfl rfl hl.1 rfl (Nat.le_of_ble_eq_true rfl) ⟨(Nat.le_of_ble_eq_true rfl), (Nat.le_of_ble_eq_true rfl)⟩ ⟨(Nat.le_of_ble_eq_true rfl), (Nat.le_of_ble_eq_true rfl)⟩ dX9_blockOf_11) (fun hp_3 H locs hH => ?_)
  refine lv_istore_n (lv' := [(2, .int (gi x_4)), (0, .ref (w.1 + a0)), (1, .int (gi x1))]) hM.fx.1 hM.fx.2.1 dX9_blockOf_14 rfl hl (by decide) rfl (fun ls hl => ?_)
  refine lv_iload_n hM.fx.1 hM.fx.2.1 dX9_blockOf_15 rfl (lv_at hl 0 rfl) ?_
  obtain ⟨x_6, ex_6, hf⟩ := gbd hf
  refine r_go1 hH rfl (r_runS (As := [.int (gi x_4)]) hM hH cs_X9_181 (mX9_isOfSlot hLC hM.ns hp_3 ex_6) rfl hl.1 rfl (Nat.le_of_ble_eq_true rfl) ⟨(Nat.le_of_ble_eq_true rfl), (Nat.le_of_ble_eq_true rfl)⟩ ⟨(Nat.le_of_ble_eq_true rfl), (Nat.le_of_ble_eq_true rfl)⟩ dX9_blockOf_16) (fun hp_5 H locs hH => ?_)
  refine r_if_ne (tgt := 24) hM.fx (gz_r hp_5) dX9_blockOf_19 (by decide) (fun h_7 => ?_) (fun h_7 => ?_)
  · have hf := gneg' h_7 hf
    refine lv_aload_n hM.fx.1 hM.fx.2.1 dX9_blockOf_24 rfl (lv_at hl 1 rfl) ?_
    refine lv_aload_n hM.fx.1 hM.fx.2.1 dX9_blockOf_25 rfl (lv_at hl 1 rfl) ?_
    refine lv_iload_n hM.fx.1 hM.fx.2.1 dX9_blockOf_26 rfl (lv_at hl 2 rfl) ?_
    refine lv_bipush (v := gi (42)) hM.fx.1 hM.fx.2.1 dX9_blockOf_27 (by decide) ?_
    refine lv_aload_n hM.fx.1 hM.fx.2.1 dX9_blockOf_29 rfl (lv_at hl 1 rfl) ?_
    refine lv_iload_n hM.fx.1 hM.fx.2.1 dX9_blockOf_30 rfl (lv_at hl 2 rfl) ?_
    refine lv_iconst (v := gi (2)) hM.fx.1 hM.fx.2.1 dX9_blockOf_31 rfl ?_
    obtain ⟨x_9, ex_9, hf⟩ := gbd hf
    refine r_go1 hH rfl (r_runV (As := [.int (gi x1), .int (gi 2)]) hM hH cv_X9_135 (mX9_of hLC hM.ns hg0 hr1 (gcR (k := 2) (by decide)) ex_9) (hLC.in hg0 (by decide)) (by decide) rfl rfl rfl hl.1 rfl (Nat.le_of_ble_eq_true rfl) ⟨(Nat.le_of_ble_eq_true rfl), (Nat.le_of_ble_eq_true rfl)⟩ ⟨(Nat.le_of_ble_eq_true rfl), (Nat.le_of_ble_eq_true rfl)⟩ dX9_blockOf_32) (fun hp_8 H locs hH => ?_)
    refine r_iadd hM.fx dX9_blockOf_35 ?_
    obtain ⟨x_11, ex_11, hf⟩ := gbd hf
    refine r_go1 hH rfl (r_runV (As := [.int (gi x1), .int (gi (gwi (42 + x_9)))]) hM hH cv_X9_135 (mX9_of hLC hM.ns hg0 hr1 (gwi_r _) ex_11) (hLC.in hg0 (by decide)) (by decide) rfl rfl rfl hl.1 rfl (Nat.le_of_ble_eq_true rfl) ⟨(Nat.le_of_ble_eq_true rfl), (Nat.le_of_ble_eq_true rfl)⟩ ⟨(Nat.le_of_ble_eq_true rfl), (Nat.le_of_ble_eq_true rfl)⟩ dX9_blockOf_36) (fun hp_10 H locs hH => ?_)
    obtain ⟨x_13, ex_13, hf⟩ := gbd hf
    refine r_go1 hH rfl (r_runV (As := [.int (gi x_11)]) hM hH cv_X9_216 (mX9_onSlot hLC hM.ns hg0 hp_10 ex_13) (hLC.in hg0 (by decide)) (by decide) rfl rfl rfl hl.1 rfl (Nat.le_of_ble_eq_true rfl) ⟨(Nat.le_of_ble_eq_true rfl), (Nat.le_of_ble_eq_true rfl)⟩ ⟨(Nat.le_of_ble_eq_true rfl), (Nat.le_of_ble_eq_true rfl)⟩ dX9_blockOf_39) (fun hp_12 H locs hH => ?_)
    refine lv_iconst (v := gi (-1)) hM.fx.1 hM.fx.2.1 dX9_blockOf_42 rfl ?_
    refine r_icmp_eq (tgt := 50) hM.fx hp_12 (gcR (k := -1) (by decide)) dX9_blockOf_43 (by decide) (fun h_14 => ?_) (fun h_14 => ?_)
    · have hf := gpos h_14 hf
      refine lv_iconst (v := gi (0)) hM.fx.1 hM.fx.2.1 dX9_blockOf_50 rfl ?_
      exact wX9_blockOf_51 hLC hM   _ _ _ _ hp_3 (gcR (k := 0) (by decide)) hf _ _ _ hH (lv_sub hl [0] rfl)
    · have hf := gneg' h_14 hf
      refine lv_iconst (v := gi (1)) hM.fx.1 hM.fx.2.1 dX9_blockOf_46 rfl ?_
      refine lv_goto (tgt := 51) hM.fx.1 hM.fx.2.1 dX9_blockOf_47 (by decide) ?_
      exact wX9_blockOf_51 hLC hM   _ _ _ _ hp_3 (gcR (k := 1) (by decide)) hf _ _ _ hH (lv_sub hl [0] rfl)
  · have hf := gpos h_7 hf
    refine lv_iconst (v := gi (0)) hM.fx.1 hM.fx.2.1 dX9_blockOf_22 rfl ?_
    obtain rfl := Option.some.inj hf
    exact r_iret hM hH (gcR (k := 0) (by decide)) ⟨(Nat.le_of_ble_eq_true rfl), (Nat.le_of_ble_eq_true rfl)⟩ dX9_blockOf_23
def fX9_stuckBy (g : Nat → Nat) (a0 : Nat) (x1 : Int) (M : gMem) : Option Int :=
  (fX9_isReady g a0 x1 M).bind fun x_2 => if x_2 = 0 then (some 0) else ((fX9_of g a0 x1 2 M).bind fun x_5 => (fX9_of g a0 x1 3 M).bind fun x_7 => if x_7 ≤ x_5 then (some 0) else ((fX9_faultOf g a0 x1 M).bind fun x_10 => if x_10 ≤ 0 then ((fX9_blockOf g a0 x1 M).bind fun x_13 => some x_13) else (some 0)))
set_option maxHeartbeats 4000000 in
set_option maxRecDepth 100000 in
theorem mX9_stuckBy {w : gW} {n : Nat} {Rm : Nat → Nat → Nat} {g : Nat → Nat} (hLC : gLC g n Rm) {l : Launch} (hl9 : l.stackTraces = false) {a0 : Nat} {x1 : Int} {M : gMem} {r : Int} (hg0 : g a0 = 9) (hr1 : gRI x1) (hf : fX9_stuckBy g a0 x1 M = some r) : gMT w n Rm l yX9_stuckBy cX9_stuckBy 2 (some .int) 5 156 0 0 [.ref (w.1 + a0), .int (gi x1)] M (.inr (some (.int (gi r)))) M (gRI r) := by
  unfold fX9_stuckBy at hf
  refine gMT.of hl9 (by decide +kernel) ((Nat.le_of_ble_eq_true rfl)) ?_
  intro p e s m below meth c hM hH ls hl
  have hM : gMC w p l s m ([.ref (w.1 + a0), .int (gi x1)] : List Value).toArray meth c cX9_stuckBy 2 RX9 (some .int) := hM
  have hl : lv_has ls 2 [(0, .ref (w.1 + a0)), (1, .int (gi x1))] := hl
  refine lv_aload_n hM.fx.1 hM.fx.2.1 dX9_stuckBy_0 rfl (lv_at hl 0 rfl) ?_
  refine lv_iload_n hM.fx.1 hM.fx.2.1 dX9_stuckBy_1 rfl (lv_at hl 1 rfl) ?_
  obtain ⟨x_2, ex_2, hf⟩ := gbd hf
  refine r_go1 hH rfl (r_runV (As := [.int (gi x1)]) hM hH cv_X9_252 (mX9_isReady hLC hM.ns hg0 hr1 ex_2) (hLC.in hg0 (by decide)) (by decide) rfl rfl rfl hl.1 rfl (Nat.le_of_ble_eq_true rfl) ⟨(Nat.le_of_ble_eq_true rfl), (Nat.le_of_ble_eq_true rfl)⟩ ⟨(Nat.le_of_ble_eq_true rfl), (Nat.le_of_ble_eq_true rfl)⟩ dX9_stuckBy_2) (fun hp_1 H locs hH => ?_)
  refine r_if_eq (tgt := 31) hM.fx (gz_r hp_1) dX9_stuckBy_5 (by decide) (fun h_3 => ?_) (fun h_3 => ?_)
  · have hf := gpos h_3 hf
    refine lv_iconst (v := gi (0)) hM.fx.1 hM.fx.2.1 dX9_stuckBy_31 rfl ?_
    obtain rfl := Option.some.inj hf
    exact r_iret hM hH (gcR (k := 0) (by decide)) ⟨(Nat.le_of_ble_eq_true rfl), (Nat.le_of_ble_eq_true rfl)⟩ dX9_stuckBy_32
  · have hf := gneg' h_3 hf
    refine lv_aload_n hM.fx.1 hM.fx.2.1 dX9_stuckBy_8 rfl (lv_at hl 0 rfl) ?_
    refine lv_iload_n hM.fx.1 hM.fx.2.1 dX9_stuckBy_9 rfl (lv_at hl 1 rfl) ?_
    refine lv_iconst (v := gi (2)) hM.fx.1 hM.fx.2.1 dX9_stuckBy_10 rfl ?_
    obtain ⟨x_5, ex_5, hf⟩ := gbd hf
    refine r_go1 hH rfl (r_runV (As := [.int (gi x1), .int (gi 2)]) hM hH cv_X9_135 (mX9_of hLC hM.ns hg0 hr1 (gcR (k := 2) (by decide)) ex_5) (hLC.in hg0 (by decide)) (by decide) rfl rfl rfl hl.1 rfl (Nat.le_of_ble_eq_true rfl) ⟨(Nat.le_of_ble_eq_true rfl), (Nat.le_of_ble_eq_true rfl)⟩ ⟨(Nat.le_of_ble_eq_true rfl), (Nat.le_of_ble_eq_true rfl)⟩ dX9_stuckBy_11) (fun hp_4 H locs hH => ?_)
    refine lv_aload_n hM.fx.1 hM.fx.2.1 dX9_stuckBy_14 rfl (lv_at hl 0 rfl) ?_
    refine lv_iload_n hM.fx.1 hM.fx.2.1 dX9_stuckBy_15 rfl (lv_at hl 1 rfl) ?_
    refine lv_iconst (v := gi (3)) hM.fx.1 hM.fx.2.1 dX9_stuckBy_16 rfl ?_
    obtain ⟨x_7, ex_7, hf⟩ := gbd hf
    refine r_go1 hH rfl (r_runV (As := [.int (gi x1), .int (gi 3)]) hM hH cv_X9_135 (mX9_of hLC hM.ns hg0 hr1 (gcR (k := 3) (by decide)) ex_7) (hLC.in hg0 (by decide)) (by decide) rfl rfl rfl hl.1 rfl (Nat.le_of_ble_eq_true rfl) ⟨(Nat.le_of_ble_eq_true rfl), (Nat.le_of_ble_eq_true rfl)⟩ ⟨(Nat.le_of_ble_eq_true rfl), (Nat.le_of_ble_eq_true rfl)⟩ dX9_stuckBy_17) (fun hp_6 H locs hH => ?_)
    refine r_icmp_ge (tgt := 31) hM.fx hp_4 hp_6 dX9_stuckBy_20 (by decide) (fun h_8 => ?_) (fun h_8 => ?_)
    · have hf := gpos h_8 hf
      refine lv_iconst (v := gi (0)) hM.fx.1 hM.fx.2.1 dX9_stuckBy_31 rfl ?_
      obtain rfl := Option.some.inj hf
      exact r_iret hM hH (gcR (k := 0) (by decide)) ⟨(Nat.le_of_ble_eq_true rfl), (Nat.le_of_ble_eq_true rfl)⟩ dX9_stuckBy_32
    · have hf := gneg' h_8 hf
      refine lv_aload_n hM.fx.1 hM.fx.2.1 dX9_stuckBy_23 rfl (lv_at hl 0 rfl) ?_
      refine lv_iload_n hM.fx.1 hM.fx.2.1 dX9_stuckBy_24 rfl (lv_at hl 1 rfl) ?_
      obtain ⟨x_10, ex_10, hf⟩ := gbd hf
      refine r_go1 hH rfl (r_runV (As := [.int (gi x1)]) hM hH cv_X9_255 (mX9_faultOf hLC hM.ns hg0 hr1 ex_10) (hLC.in hg0 (by decide)) (by decide) rfl rfl rfl hl.1 rfl (Nat.le_of_ble_eq_true rfl) ⟨(Nat.le_of_ble_eq_true rfl), (Nat.le_of_ble_eq_true rfl)⟩ ⟨(Nat.le_of_ble_eq_true rfl), (Nat.le_of_ble_eq_true rfl)⟩ dX9_stuckBy_25) (fun hp_9 H locs hH => ?_)
      refine r_if_le (tgt := 33) hM.fx hp_9 dX9_stuckBy_28 (by decide) (fun h_11 => ?_) (fun h_11 => ?_)
      · have hf := gpos h_11 hf
        refine lv_aload_n hM.fx.1 hM.fx.2.1 dX9_stuckBy_33 rfl (lv_at hl 0 rfl) ?_
        refine lv_iload_n hM.fx.1 hM.fx.2.1 dX9_stuckBy_34 rfl (lv_at hl 1 rfl) ?_
        obtain ⟨x_13, ex_13, hf⟩ := gbd hf
        refine r_go1 hH rfl (r_runV (As := [.int (gi x1)]) hM hH cv_X9_258 (mX9_blockOf hLC hM.ns hg0 hr1 ex_13) (hLC.in hg0 (by decide)) (by decide) rfl rfl rfl hl.1 rfl (Nat.le_of_ble_eq_true rfl) ⟨(Nat.le_of_ble_eq_true rfl), (Nat.le_of_ble_eq_true rfl)⟩ ⟨(Nat.le_of_ble_eq_true rfl), (Nat.le_of_ble_eq_true rfl)⟩ dX9_stuckBy_35) (fun hp_12 H locs hH => ?_)
        obtain rfl := Option.some.inj hf
        exact r_iret hM hH hp_12 ⟨(Nat.le_of_ble_eq_true rfl), (Nat.le_of_ble_eq_true rfl)⟩ dX9_stuckBy_38
      · have hf := gneg' h_11 hf
        refine lv_iconst (v := gi (0)) hM.fx.1 hM.fx.2.1 dX9_stuckBy_31 rfl ?_
        obtain rfl := Option.some.inj hf
        exact r_iret hM hH (gcR (k := 0) (by decide)) ⟨(Nat.le_of_ble_eq_true rfl), (Nat.le_of_ble_eq_true rfl)⟩ dX9_stuckBy_32
def fX9_isDeskStuck_30 (g : Nat → Nat) (k2 : Nat → Int → gMem → Option Int) (a0 : Nat) (x1 : Int) (M : gMem) : Option Int :=
  gst (gwi (x1 + 1)) fun x_1 => k2 a0 x_1 M
set_option maxHeartbeats 4000000 in
set_option maxRecDepth 100000 in
theorem wX9_isDeskStuck_30 {w : gW} {n : Nat} {Rm : Nat → Nat → Nat} {g : Nat → Nat} (hLC : gLC g n Rm) {p : Program} {l : Launch} {e : Env} {s : State} {m : MethodId} {args : Array Value} {below : List Frame} {meth : Method} {c : Code} (hM : gMC w p l s m args meth c cX9_isDeskStuck 2 RX9 (some .boolean)) (k2 : Nat → Int → gMem → Option Int) (hk2 : ∀ (a0 : Nat) (x1 : Int) (M : gMem) (r : Int) (hg0 : g a0 = 9) (hr1 : gRI x1) (hf : k2 a0 x1 M = some r) (H : Heap) (locs : List Loc) (ls : Array Slot) (hH : gH w n Rm M s H locs) (hl : lv_has ls 2 [(0, .ref (w.1 + a0)), (1, .int (gi x1))]), W p l e { frames := 6, cells := 0, slots := 0, locals := 177 } s m args below meth c H locs 0 0 (gQ w n Rm below args s 0 0 (.inr (some (.int (gi r)))) M (r = 0 ∨ r = 1)) (F0 m 2 ls [])) : ∀ (a0 : Nat) (x1 : Int) (M : gMem) (r : Int) (hg0 : g a0 = 9) (hr1 : gRI x1) (hf : fX9_isDeskStuck_30 g k2 a0 x1 M = some r) (H : Heap) (locs : List Loc) (ls : Array Slot) (hH : gH w n Rm M s H locs) (hl : lv_has ls 2 [(0, .ref (w.1 + a0)), (1, .int (gi x1))]), W p l e { frames := 6, cells := 0, slots := 0, locals := 177 } s m args below meth c H locs 0 0 (gQ w n Rm below args s 0 0 (.inr (some (.int (gi r)))) M (r = 0 ∨ r = 1)) (F0 m 30 ls []) := by
  intro a0 x1 M r hg0 hr1 hf H locs ls hH hl
  unfold fX9_isDeskStuck_30 at hf
  obtain ⟨x_1, ex_1, hf⟩ := gst_s hf
  have hx_1 : gRI x_1 := by rw [ex_1]; exact gwi_r _
  refine r_iinc (lv' := [(1, .int (gi x_1)), (0, .ref (w.1 + a0))]) hM.fx dX9_isDeskStuck_30 hl (k := 1) rfl (by decide) (by rw [ex_1]; rfl) (fun ls hl => ?_)
  refine lv_goto (tgt := 2) hM.fx.1 hM.fx.2.1 dX9_isDeskStuck_33 (by decide) ?_
  exact hk2 _ _ _ _ hg0 hx_1 hf _ _ _ hH (lv_sub hl [1, 0] rfl)
def fX9_isDeskStuck_2 (g : Nat → Nat)  : Nat → Nat → Int → gMem → Option Int
  | 0, _, _, _ => none
  | fu + 1, a0, x1, M => if (0 : Int) ≤ 1 ∧ (1 : Int) < 1190 then if M (a0 + 1) (1 : Int).toNat ≤ x1 then ((fX9_countOf g a0 0 M).bind fun x_5 => if x_5 ≤ 0 then (some 0) else (some 1)) else ((fX9_isReady g a0 x1 M).bind fun x_8 => if x_8 = 0 then (fX9_isDeskStuck_30 g (fX9_isDeskStuck_2 g fu) a0 x1 M) else ((fX9_stuckBy g a0 x1 M).bind fun x_11 => if x_11 = 0 then (some 0) else (fX9_isDeskStuck_30 g (fX9_isDeskStuck_2 g fu) a0 x1 M))) else none
set_option maxHeartbeats 4000000 in
set_option maxRecDepth 100000 in
theorem wX9_isDeskStuck_2 {w : gW} {n : Nat} {Rm : Nat → Nat → Nat} {g : Nat → Nat} (hLC : gLC g n Rm) {p : Program} {l : Launch} {e : Env} {s : State} {m : MethodId} {args : Array Value} {below : List Frame} {meth : Method} {c : Code} (hM : gMC w p l s m args meth c cX9_isDeskStuck 2 RX9 (some .boolean))  : ∀ (fu : Nat), ∀ (a0 : Nat) (x1 : Int) (M : gMem) (r : Int) (hg0 : g a0 = 9) (hr1 : gRI x1) (hf : fX9_isDeskStuck_2 g fu a0 x1 M = some r) (H : Heap) (locs : List Loc) (ls : Array Slot) (hH : gH w n Rm M s H locs) (hl : lv_has ls 2 [(0, .ref (w.1 + a0)), (1, .int (gi x1))]), W p l e { frames := 6, cells := 0, slots := 0, locals := 177 } s m args below meth c H locs 0 0 (gQ w n Rm below args s 0 0 (.inr (some (.int (gi r)))) M (r = 0 ∨ r = 1)) (F0 m 2 ls []) := by
  intro fu
  induction fu with
  | zero =>
    intro a0 x1 M r hg0 hr1 hf H locs ls hH hl
    exact absurd hf (by simp [fX9_isDeskStuck_2])
  | succ fu ih =>
    intro a0 x1 M r hg0 hr1 hf H locs ls hH hl
    unfold fX9_isDeskStuck_2 at hf
    refine lv_iload_n hM.fx.1 hM.fx.2.1 dX9_isDeskStuck_2 rfl (lv_at hl 1 rfl) ?_
    refine lv_aload_n hM.fx.1 hM.fx.2.1 dX9_isDeskStuck_3 rfl (lv_at hl 0 rfl) ?_
    refine r_getR hM.fx hM.kf hH hLC fl_X9_7 hg0 gch_9_0 dX9_isDeskStuck_4 ?_
    refine lv_iconst (v := gi (1)) hM.fx.1 hM.fx.2.1 dX9_isDeskStuck_7 rfl ?_
    obtain ⟨g_1, hf⟩ := gif hf
    refine r_iald hM.fx hM.kf hH (hLC.in (hLC.ch hg0 (by decide) gch_9_0) (by decide)) (⟨by decide, by decide⟩ : gAr 19056 0) (gcR (k := 1) (by decide)) g_1 dX9_isDeskStuck_8 ?_
    have hr_2 := hH.2.2.i (k := (1 : Int).toNat) (hLC.in (hLC.ch hg0 (by decide) gch_9_0) (by decide)).2.2 (glg_a (⟨by decide, by decide⟩ : gAr 19056 0))
    refine r_icmp_ge (tgt := 36) hM.fx hr1 hr_2 dX9_isDeskStuck_9 (by decide) (fun h_3 => ?_) (fun h_3 => ?_)
    · have hf := gpos h_3 hf
      refine lv_aload_n hM.fx.1 hM.fx.2.1 dX9_isDeskStuck_36 rfl (lv_at hl 0 rfl) ?_
      refine lv_iconst (v := gi (0)) hM.fx.1 hM.fx.2.1 dX9_isDeskStuck_37 rfl ?_
      obtain ⟨x_5, ex_5, hf⟩ := gbd hf
      refine r_go1 hH rfl (r_runV (As := [.int (gi 0)]) hM hH cv_X9_264 (mX9_countOf hLC hM.ns hg0 (gcR (k := 0) (by decide)) ex_5) (hLC.in hg0 (by decide)) (by decide) rfl rfl rfl hl.1 rfl (Nat.le_of_ble_eq_true rfl) ⟨(Nat.le_of_ble_eq_true rfl), (Nat.le_of_ble_eq_true rfl)⟩ ⟨(Nat.le_of_ble_eq_true rfl), (Nat.le_of_ble_eq_true rfl)⟩ dX9_isDeskStuck_38) (fun hp_4 H locs hH => ?_)
      refine r_if_le (tgt := 48) hM.fx hp_4 dX9_isDeskStuck_41 (by decide) (fun h_6 => ?_) (fun h_6 => ?_)
      · have hf := gpos h_6 hf
        refine lv_iconst (v := gi (0)) hM.fx.1 hM.fx.2.1 dX9_isDeskStuck_48 rfl ?_
        obtain rfl := Option.some.inj hf
        exact r_zret hM hH (Or.inl rfl) (Or.inl rfl) ⟨(Nat.le_of_ble_eq_true rfl), (Nat.le_of_ble_eq_true rfl)⟩ dX9_isDeskStuck_49
      · have hf := gneg' h_6 hf
        refine lv_iconst (v := gi (1)) hM.fx.1 hM.fx.2.1 dX9_isDeskStuck_44 rfl ?_
        refine lv_goto (tgt := 49) hM.fx.1 hM.fx.2.1 dX9_isDeskStuck_45 (by decide) ?_
        obtain rfl := Option.some.inj hf
        exact r_zret hM hH (Or.inr rfl) (Or.inr rfl) ⟨(Nat.le_of_ble_eq_true rfl), (Nat.le_of_ble_eq_true rfl)⟩ dX9_isDeskStuck_49
    · have hf := gneg' h_3 hf
      refine lv_aload_n hM.fx.1 hM.fx.2.1 dX9_isDeskStuck_12 rfl (lv_at hl 0 rfl) ?_
      refine lv_iload_n hM.fx.1 hM.fx.2.1 dX9_isDeskStuck_13 rfl (lv_at hl 1 rfl) ?_
      obtain ⟨x_8, ex_8, hf⟩ := gbd hf
      refine r_go1 hH rfl (r_runV (As := [.int (gi x1)]) hM hH cv_X9_252 (mX9_isReady hLC hM.ns hg0 hr1 ex_8) (hLC.in hg0 (by decide)) (by decide) rfl rfl rfl hl.1 rfl (Nat.le_of_ble_eq_true rfl) ⟨(Nat.le_of_ble_eq_true rfl), (Nat.le_of_ble_eq_true rfl)⟩ ⟨(Nat.le_of_ble_eq_true rfl), (Nat.le_of_ble_eq_true rfl)⟩ dX9_isDeskStuck_14) (fun hp_7 H locs hH => ?_)
      refine r_if_eq (tgt := 30) hM.fx (gz_r hp_7) dX9_isDeskStuck_17 (by decide) (fun h_9 => ?_) (fun h_9 => ?_)
      · have hf := gpos h_9 hf
        exact wX9_isDeskStuck_30 hLC hM (fX9_isDeskStuck_2 g fu) ih  _ _ _ _ hg0 hr1 hf _ _ _ hH hl
      · have hf := gneg' h_9 hf
        refine lv_aload_n hM.fx.1 hM.fx.2.1 dX9_isDeskStuck_20 rfl (lv_at hl 0 rfl) ?_
        refine lv_iload_n hM.fx.1 hM.fx.2.1 dX9_isDeskStuck_21 rfl (lv_at hl 1 rfl) ?_
        obtain ⟨x_11, ex_11, hf⟩ := gbd hf
        refine r_go1 hH rfl (r_runV (As := [.int (gi x1)]) hM hH cv_X9_261 (mX9_stuckBy hLC hM.ns hg0 hr1 ex_11) (hLC.in hg0 (by decide)) (by decide) rfl rfl rfl hl.1 rfl (Nat.le_of_ble_eq_true rfl) ⟨(Nat.le_of_ble_eq_true rfl), (Nat.le_of_ble_eq_true rfl)⟩ ⟨(Nat.le_of_ble_eq_true rfl), (Nat.le_of_ble_eq_true rfl)⟩ dX9_isDeskStuck_22) (fun hp_10 H locs hH => ?_)
        refine r_if_ne (tgt := 30) hM.fx hp_10 dX9_isDeskStuck_25 (by decide) (fun h_12 => ?_) (fun h_12 => ?_)
        · have hf := gneg' h_12 hf
          exact wX9_isDeskStuck_30 hLC hM (fX9_isDeskStuck_2 g fu) ih  _ _ _ _ hg0 hr1 hf _ _ _ hH hl
        · have hf := gpos h_12 hf
          refine lv_iconst (v := gi (0)) hM.fx.1 hM.fx.2.1 dX9_isDeskStuck_28 rfl ?_
          obtain rfl := Option.some.inj hf
          exact r_zret hM hH (Or.inl rfl) (Or.inl rfl) ⟨(Nat.le_of_ble_eq_true rfl), (Nat.le_of_ble_eq_true rfl)⟩ dX9_isDeskStuck_29
def fX9_isDeskStuck (g : Nat → Nat) (a0 : Nat) (M : gMem) : Option Int :=
  fX9_isDeskStuck_2 g gF a0 0 M
set_option maxHeartbeats 4000000 in
set_option maxRecDepth 100000 in
theorem mX9_isDeskStuck {w : gW} {n : Nat} {Rm : Nat → Nat → Nat} {g : Nat → Nat} (hLC : gLC g n Rm) {l : Launch} (hl9 : l.stackTraces = false) {a0 : Nat} {M : gMem} {r : Int} (hg0 : g a0 = 9) (hf : fX9_isDeskStuck g a0 M = some r) : gMT w n Rm l yX9_isDeskStuck cX9_isDeskStuck 2 (some .boolean) 6 177 0 0 [.ref (w.1 + a0)] M (.inr (some (.int (gi r)))) M (r = 0 ∨ r = 1) := by
  unfold fX9_isDeskStuck at hf
  refine gMT.of hl9 (by decide +kernel) ((Nat.le_of_ble_eq_true rfl)) ?_
  intro p e s m below meth c hM hH ls hl
  have hM : gMC w p l s m ([.ref (w.1 + a0)] : List Value).toArray meth c cX9_isDeskStuck 2 RX9 (some .boolean) := hM
  have hl : lv_has ls 2 [(0, .ref (w.1 + a0))] := hl
  refine lv_iconst (v := gi (0)) hM.fx.1 hM.fx.2.1 dX9_isDeskStuck_0 rfl ?_
  refine lv_istore_n (lv' := [(1, .int (gi 0)), (0, .ref (w.1 + a0))]) hM.fx.1 hM.fx.2.1 dX9_isDeskStuck_1 rfl hl (by decide) rfl (fun ls hl => ?_)
  exact wX9_isDeskStuck_2 hLC hM  gF _ _ _ _ hg0 (gcR (k := 0) (by decide)) hf _ _ _ hH (lv_sub hl [1, 0] rfl)
def fX9_pops (g : Nat → Nat) (a0 : Nat) (x1 : Int) (M : gMem) : Option gMem :=
  (fX9_ofStack g a0 x1 1 M).bind fun x_2 => (fX9_puts g a0 x1 1 (gwi (x_2 - 1)) M).bind fun M_4 => some M_4
set_option maxHeartbeats 4000000 in
set_option maxRecDepth 100000 in
theorem mX9_pops {w : gW} {n : Nat} {Rm : Nat → Nat → Nat} {g : Nat → Nat} (hLC : gLC g n Rm) {l : Launch} (hl9 : l.stackTraces = false) {a0 : Nat} {x1 : Int} {M : gMem} {r : gMem} (hg0 : g a0 = 9) (hr1 : gRI x1) (hf : fX9_pops g a0 x1 M = some r) : gMT w n Rm l yX9_pops cX9_pops 2 none 2 83 0 0 [.ref (w.1 + a0), .int (gi x1)] M (.inr none) r True := by
  unfold fX9_pops at hf
  refine gMT.of hl9 (by decide +kernel) ((Nat.le_of_ble_eq_true rfl)) ?_
  intro p e s m below meth c hM hH ls hl
  have hM : gMC w p l s m ([.ref (w.1 + a0), .int (gi x1)] : List Value).toArray meth c cX9_pops 2 RX9 none := hM
  have hl : lv_has ls 2 [(0, .ref (w.1 + a0)), (1, .int (gi x1))] := hl
  refine lv_aload_n hM.fx.1 hM.fx.2.1 dX9_pops_0 rfl (lv_at hl 0 rfl) ?_
  refine lv_iload_n hM.fx.1 hM.fx.2.1 dX9_pops_1 rfl (lv_at hl 1 rfl) ?_
  refine lv_iconst (v := gi (1)) hM.fx.1 hM.fx.2.1 dX9_pops_2 rfl ?_
  refine lv_aload_n hM.fx.1 hM.fx.2.1 dX9_pops_3 rfl (lv_at hl 0 rfl) ?_
  refine lv_iload_n hM.fx.1 hM.fx.2.1 dX9_pops_4 rfl (lv_at hl 1 rfl) ?_
  refine lv_iconst (v := gi (1)) hM.fx.1 hM.fx.2.1 dX9_pops_5 rfl ?_
  obtain ⟨x_2, ex_2, hf⟩ := gbd hf
  refine r_go1 hH rfl (r_runV (As := [.int (gi x1), .int (gi 1)]) hM hH cv_X9_232 (mX9_ofStack hLC hM.ns hg0 hr1 (gcR (k := 1) (by decide)) ex_2) (hLC.in hg0 (by decide)) (by decide) rfl rfl rfl hl.1 rfl (Nat.le_of_ble_eq_true rfl) ⟨(Nat.le_of_ble_eq_true rfl), (Nat.le_of_ble_eq_true rfl)⟩ ⟨(Nat.le_of_ble_eq_true rfl), (Nat.le_of_ble_eq_true rfl)⟩ dX9_pops_6) (fun hp_1 H locs hH => ?_)
  refine lv_iconst (v := gi (1)) hM.fx.1 hM.fx.2.1 dX9_pops_9 rfl ?_
  refine r_isub hM.fx dX9_pops_10 ?_
  obtain ⟨M_4, eM_4, hf⟩ := gbd hf
  refine r_go0 hH rfl (r_runV (As := [.int (gi x1), .int (gi 1), .int (gi (gwi (x_2 - 1)))]) hM hH cv_X9_219 (mX9_puts hLC hM.ns hg0 hr1 (gcR (k := 1) (by decide)) (gwi_r _) eM_4) (hLC.in hg0 (by decide)) (by decide) rfl rfl rfl hl.1 rfl (Nat.le_of_ble_eq_true rfl) ⟨(Nat.le_of_ble_eq_true rfl), (Nat.le_of_ble_eq_true rfl)⟩ ⟨(Nat.le_of_ble_eq_true rfl), (Nat.le_of_ble_eq_true rfl)⟩ dX9_pops_11) (fun hp_3 H locs hH => ?_)
  obtain rfl := Option.some.inj hf
  exact r_vret hM hH trivial ⟨(Nat.le_of_ble_eq_true rfl), (Nat.le_of_ble_eq_true rfl)⟩ dX9_pops_14
def fX9_pushes (g : Nat → Nat) (a0 : Nat) (x1 : Int) (x2 : Int) (M : gMem) : Option gMem :=
  (fX9_ofStack g a0 x1 1 M).bind fun x_2 => (fX9_puts g a0 x1 (gwi (5 + x_2)) x2 M).bind fun M_4 => (fX9_ofStack g a0 x1 1 M_4).bind fun x_6 => (fX9_puts g a0 x1 1 (gwi (x_6 + 1)) M_4).bind fun M_8 => some M_8
set_option maxHeartbeats 4000000 in
set_option maxRecDepth 100000 in
theorem mX9_pushes {w : gW} {n : Nat} {Rm : Nat → Nat → Nat} {g : Nat → Nat} (hLC : gLC g n Rm) {l : Launch} (hl9 : l.stackTraces = false) {a0 : Nat} {x1 : Int} {x2 : Int} {M : gMem} {r : gMem} (hg0 : g a0 = 9) (hr1 : gRI x1) (hr2 : gRI x2) (hf : fX9_pushes g a0 x1 x2 M = some r) : gMT w n Rm l yX9_pushes cX9_pushes 3 none 2 83 0 0 [.ref (w.1 + a0), .int (gi x1), .int (gi x2)] M (.inr none) r True := by
  unfold fX9_pushes at hf
  refine gMT.of hl9 (by decide +kernel) ((Nat.le_of_ble_eq_true rfl)) ?_
  intro p e s m below meth c hM hH ls hl
  have hM : gMC w p l s m ([.ref (w.1 + a0), .int (gi x1), .int (gi x2)] : List Value).toArray meth c cX9_pushes 3 RX9 none := hM
  have hl : lv_has ls 3 [(0, .ref (w.1 + a0)), (1, .int (gi x1)), (2, .int (gi x2))] := hl
  refine lv_aload_n hM.fx.1 hM.fx.2.1 dX9_pushes_0 rfl (lv_at hl 0 rfl) ?_
  refine lv_iload_n hM.fx.1 hM.fx.2.1 dX9_pushes_1 rfl (lv_at hl 1 rfl) ?_
  refine lv_iconst (v := gi (5)) hM.fx.1 hM.fx.2.1 dX9_pushes_2 rfl ?_
  refine lv_aload_n hM.fx.1 hM.fx.2.1 dX9_pushes_3 rfl (lv_at hl 0 rfl) ?_
  refine lv_iload_n hM.fx.1 hM.fx.2.1 dX9_pushes_4 rfl (lv_at hl 1 rfl) ?_
  refine lv_iconst (v := gi (1)) hM.fx.1 hM.fx.2.1 dX9_pushes_5 rfl ?_
  obtain ⟨x_2, ex_2, hf⟩ := gbd hf
  refine r_go1 hH rfl (r_runV (As := [.int (gi x1), .int (gi 1)]) hM hH cv_X9_232 (mX9_ofStack hLC hM.ns hg0 hr1 (gcR (k := 1) (by decide)) ex_2) (hLC.in hg0 (by decide)) (by decide) rfl rfl rfl hl.1 rfl (Nat.le_of_ble_eq_true rfl) ⟨(Nat.le_of_ble_eq_true rfl), (Nat.le_of_ble_eq_true rfl)⟩ ⟨(Nat.le_of_ble_eq_true rfl), (Nat.le_of_ble_eq_true rfl)⟩ dX9_pushes_6) (fun hp_1 H locs hH => ?_)
  refine r_iadd hM.fx dX9_pushes_9 ?_
  refine lv_iload_n hM.fx.1 hM.fx.2.1 dX9_pushes_10 rfl (lv_at hl 2 rfl) ?_
  obtain ⟨M_4, eM_4, hf⟩ := gbd hf
  refine r_go0 hH rfl (r_runV (As := [.int (gi x1), .int (gi (gwi (5 + x_2))), .int (gi x2)]) hM hH cv_X9_219 (mX9_puts hLC hM.ns hg0 hr1 (gwi_r _) hr2 eM_4) (hLC.in hg0 (by decide)) (by decide) rfl rfl rfl hl.1 rfl (Nat.le_of_ble_eq_true rfl) ⟨(Nat.le_of_ble_eq_true rfl), (Nat.le_of_ble_eq_true rfl)⟩ ⟨(Nat.le_of_ble_eq_true rfl), (Nat.le_of_ble_eq_true rfl)⟩ dX9_pushes_11) (fun hp_3 H locs hH => ?_)
  refine lv_aload_n hM.fx.1 hM.fx.2.1 dX9_pushes_14 rfl (lv_at hl 0 rfl) ?_
  refine lv_iload_n hM.fx.1 hM.fx.2.1 dX9_pushes_15 rfl (lv_at hl 1 rfl) ?_
  refine lv_iconst (v := gi (1)) hM.fx.1 hM.fx.2.1 dX9_pushes_16 rfl ?_
  refine lv_aload_n hM.fx.1 hM.fx.2.1 dX9_pushes_17 rfl (lv_at hl 0 rfl) ?_
  refine lv_iload_n hM.fx.1 hM.fx.2.1 dX9_pushes_18 rfl (lv_at hl 1 rfl) ?_
  refine lv_iconst (v := gi (1)) hM.fx.1 hM.fx.2.1 dX9_pushes_19 rfl ?_
  obtain ⟨x_6, ex_6, hf⟩ := gbd hf
  refine r_go1 hH rfl (r_runV (As := [.int (gi x1), .int (gi 1)]) hM hH cv_X9_232 (mX9_ofStack hLC hM.ns hg0 hr1 (gcR (k := 1) (by decide)) ex_6) (hLC.in hg0 (by decide)) (by decide) rfl rfl rfl hl.1 rfl (Nat.le_of_ble_eq_true rfl) ⟨(Nat.le_of_ble_eq_true rfl), (Nat.le_of_ble_eq_true rfl)⟩ ⟨(Nat.le_of_ble_eq_true rfl), (Nat.le_of_ble_eq_true rfl)⟩ dX9_pushes_20) (fun hp_5 H locs hH => ?_)
  refine lv_iconst (v := gi (1)) hM.fx.1 hM.fx.2.1 dX9_pushes_23 rfl ?_
  refine r_iadd hM.fx dX9_pushes_24 ?_
  obtain ⟨M_8, eM_8, hf⟩ := gbd hf
  refine r_go0 hH rfl (r_runV (As := [.int (gi x1), .int (gi 1), .int (gi (gwi (x_6 + 1)))]) hM hH cv_X9_219 (mX9_puts hLC hM.ns hg0 hr1 (gcR (k := 1) (by decide)) (gwi_r _) eM_8) (hLC.in hg0 (by decide)) (by decide) rfl rfl rfl hl.1 rfl (Nat.le_of_ble_eq_true rfl) ⟨(Nat.le_of_ble_eq_true rfl), (Nat.le_of_ble_eq_true rfl)⟩ ⟨(Nat.le_of_ble_eq_true rfl), (Nat.le_of_ble_eq_true rfl)⟩ dX9_pushes_25) (fun hp_7 H locs hH => ?_)
  obtain rfl := Option.some.inj hf
  exact r_vret hM hH trivial ⟨(Nat.le_of_ble_eq_true rfl), (Nat.le_of_ble_eq_true rfl)⟩ dX9_pushes_28
def fX9_saysNumberOf_3 (g : Nat → Nat)  : Nat → Nat → Int → Int → Int → gMem → Option gMem
  | 0, _, _, _, _, _ => none
  | fu + 1, a0, x1, x2, x3, M => if x3 ≤ 0 then ((fX9_sets g a0 x1 66 x2 M).bind fun M_3 => (fX9_of g a0 x1 9 M_3).bind fun x_5 => (fX9_sets g a0 x1 9 (gwi (x_5 + 1)) M_3).bind fun M_7 => some M_7) else ((fX9_of g a0 x1 (gwi (gwi (66 + x3) - 1)) M).bind fun x_9 => (fX9_sets g a0 x1 (gwi (66 + x3)) x_9 M).bind fun M_11 => gst (gwi (x3 + (-1))) fun x_12 => fX9_saysNumberOf_3 g fu a0 x1 x2 x_12 M_11)
set_option maxHeartbeats 4000000 in
set_option maxRecDepth 100000 in
theorem wX9_saysNumberOf_3 {w : gW} {n : Nat} {Rm : Nat → Nat → Nat} {g : Nat → Nat} (hLC : gLC g n Rm) {p : Program} {l : Launch} {e : Env} {s : State} {m : MethodId} {args : Array Value} {below : List Frame} {meth : Method} {c : Code} (hM : gMC w p l s m args meth c cX9_saysNumberOf 4 RX9 none)  : ∀ (fu : Nat), ∀ (a0 : Nat) (x1 : Int) (x2 : Int) (x3 : Int) (M : gMem) (r : gMem) (hg0 : g a0 = 9) (hr1 : gRI x1) (hr2 : gRI x2) (hr3 : gRI x3) (hf : fX9_saysNumberOf_3 g fu a0 x1 x2 x3 M = some r) (H : Heap) (locs : List Loc) (ls : Array Slot) (hH : gH w n Rm M s H locs) (hl : lv_has ls 4 [(0, .ref (w.1 + a0)), (1, .int (gi x1)), (2, .int (gi x2)), (3, .int (gi x3))]), W p l e { frames := 2, cells := 0, slots := 0, locals := 83 } s m args below meth c H locs 0 0 (gQ w n Rm below args s 0 0 (.inr none) r True) (F0 m 3 ls []) := by
  intro fu
  induction fu with
  | zero =>
    intro a0 x1 x2 x3 M r hg0 hr1 hr2 hr3 hf H locs ls hH hl
    exact absurd hf (by simp [fX9_saysNumberOf_3])
  | succ fu ih =>
    intro a0 x1 x2 x3 M r hg0 hr1 hr2 hr3 hf H locs ls hH hl
    unfold fX9_saysNumberOf_3 at hf
    refine lv_iload_n hM.fx.1 hM.fx.2.1 dX9_saysNumberOf_3 rfl (lv_at hl 3 rfl) ?_
    refine r_if_le (tgt := 33) hM.fx hr3 dX9_saysNumberOf_4 (by decide) (fun h_1 => ?_) (fun h_1 => ?_)
    · have hf := gpos h_1 hf
      refine lv_aload_n hM.fx.1 hM.fx.2.1 dX9_saysNumberOf_33 rfl (lv_at hl 0 rfl) ?_
      refine lv_iload_n hM.fx.1 hM.fx.2.1 dX9_saysNumberOf_34 rfl (lv_at hl 1 rfl) ?_
      refine lv_bipush (v := gi (66)) hM.fx.1 hM.fx.2.1 dX9_saysNumberOf_35 (by decide) ?_
      refine lv_iload_n hM.fx.1 hM.fx.2.1 dX9_saysNumberOf_37 rfl (lv_at hl 2 rfl) ?_
      obtain ⟨M_3, eM_3, hf⟩ := gbd hf
      refine r_go0 hH rfl (r_runV (As := [.int (gi x1), .int (gi 66), .int (gi x2)]) hM hH cv_X9_42 (mX9_sets hLC hM.ns hg0 hr1 (gcR (k := 66) (by decide)) hr2 eM_3) (hLC.in hg0 (by decide)) (by decide) rfl rfl rfl hl.1 rfl (Nat.le_of_ble_eq_true rfl) ⟨(Nat.le_of_ble_eq_true rfl), (Nat.le_of_ble_eq_true rfl)⟩ ⟨(Nat.le_of_ble_eq_true rfl), (Nat.le_of_ble_eq_true rfl)⟩ dX9_saysNumberOf_38) (fun hp_2 H locs hH => ?_)
      refine lv_aload_n hM.fx.1 hM.fx.2.1 dX9_saysNumberOf_41 rfl (lv_at hl 0 rfl) ?_
      refine lv_iload_n hM.fx.1 hM.fx.2.1 dX9_saysNumberOf_42 rfl (lv_at hl 1 rfl) ?_
      refine lv_bipush (v := gi (9)) hM.fx.1 hM.fx.2.1 dX9_saysNumberOf_43 (by decide) ?_
      refine lv_aload_n hM.fx.1 hM.fx.2.1 dX9_saysNumberOf_45 rfl (lv_at hl 0 rfl) ?_
      refine lv_iload_n hM.fx.1 hM.fx.2.1 dX9_saysNumberOf_46 rfl (lv_at hl 1 rfl) ?_
      refine lv_bipush (v := gi (9)) hM.fx.1 hM.fx.2.1 dX9_saysNumberOf_47 (by decide) ?_
      obtain ⟨x_5, ex_5, hf⟩ := gbd hf
      refine r_go1 hH rfl (r_runV (As := [.int (gi x1), .int (gi 9)]) hM hH cv_X9_135 (mX9_of hLC hM.ns hg0 hr1 (gcR (k := 9) (by decide)) ex_5) (hLC.in hg0 (by decide)) (by decide) rfl rfl rfl hl.1 rfl (Nat.le_of_ble_eq_true rfl) ⟨(Nat.le_of_ble_eq_true rfl), (Nat.le_of_ble_eq_true rfl)⟩ ⟨(Nat.le_of_ble_eq_true rfl), (Nat.le_of_ble_eq_true rfl)⟩ dX9_saysNumberOf_49) (fun hp_4 H locs hH => ?_)
      refine lv_iconst (v := gi (1)) hM.fx.1 hM.fx.2.1 dX9_saysNumberOf_52 rfl ?_
      refine r_iadd hM.fx dX9_saysNumberOf_53 ?_
      obtain ⟨M_7, eM_7, hf⟩ := gbd hf
      refine r_go0 hH rfl (r_runV (As := [.int (gi x1), .int (gi 9), .int (gi (gwi (x_5 + 1)))]) hM hH cv_X9_42 (mX9_sets hLC hM.ns hg0 hr1 (gcR (k := 9) (by decide)) (gwi_r _) eM_7) (hLC.in hg0 (by decide)) (by decide) rfl rfl rfl hl.1 rfl (Nat.le_of_ble_eq_true rfl) ⟨(Nat.le_of_ble_eq_true rfl), (Nat.le_of_ble_eq_true rfl)⟩ ⟨(Nat.le_of_ble_eq_true rfl), (Nat.le_of_ble_eq_true rfl)⟩ dX9_saysNumberOf_54) (fun hp_6 H locs hH => ?_)
      obtain rfl := Option.some.inj hf
      exact r_vret hM hH trivial ⟨(Nat.le_of_ble_eq_true rfl), (Nat.le_of_ble_eq_true rfl)⟩ dX9_saysNumberOf_57
    · have hf := gneg' h_1 hf
      refine lv_aload_n hM.fx.1 hM.fx.2.1 dX9_saysNumberOf_7 rfl (lv_at hl 0 rfl) ?_
      refine lv_iload_n hM.fx.1 hM.fx.2.1 dX9_saysNumberOf_8 rfl (lv_at hl 1 rfl) ?_
      refine lv_bipush (v := gi (66)) hM.fx.1 hM.fx.2.1 dX9_saysNumberOf_9 (by decide) ?_
      refine lv_iload_n hM.fx.1 hM.fx.2.1 dX9_saysNumberOf_11 rfl (lv_at hl 3 rfl) ?_
      refine r_iadd hM.fx dX9_saysNumberOf_12 ?_
      refine lv_aload_n hM.fx.1 hM.fx.2.1 dX9_saysNumberOf_13 rfl (lv_at hl 0 rfl) ?_
      refine lv_iload_n hM.fx.1 hM.fx.2.1 dX9_saysNumberOf_14 rfl (lv_at hl 1 rfl) ?_
      refine lv_bipush (v := gi (66)) hM.fx.1 hM.fx.2.1 dX9_saysNumberOf_15 (by decide) ?_
      refine lv_iload_n hM.fx.1 hM.fx.2.1 dX9_saysNumberOf_17 rfl (lv_at hl 3 rfl) ?_
      refine r_iadd hM.fx dX9_saysNumberOf_18 ?_
      refine lv_iconst (v := gi (1)) hM.fx.1 hM.fx.2.1 dX9_saysNumberOf_19 rfl ?_
      refine r_isub hM.fx dX9_saysNumberOf_20 ?_
      obtain ⟨x_9, ex_9, hf⟩ := gbd hf
      refine r_go1 hH rfl (r_runV (As := [.int (gi x1), .int (gi (gwi (gwi (66 + x3) - 1)))]) hM hH cv_X9_135 (mX9_of hLC hM.ns hg0 hr1 (gwi_r _) ex_9) (hLC.in hg0 (by decide)) (by decide) rfl rfl rfl hl.1 rfl (Nat.le_of_ble_eq_true rfl) ⟨(Nat.le_of_ble_eq_true rfl), (Nat.le_of_ble_eq_true rfl)⟩ ⟨(Nat.le_of_ble_eq_true rfl), (Nat.le_of_ble_eq_true rfl)⟩ dX9_saysNumberOf_21) (fun hp_8 H locs hH => ?_)
      obtain ⟨M_11, eM_11, hf⟩ := gbd hf
      refine r_go0 hH rfl (r_runV (As := [.int (gi x1), .int (gi (gwi (66 + x3))), .int (gi x_9)]) hM hH cv_X9_42 (mX9_sets hLC hM.ns hg0 hr1 (gwi_r _) hp_8 eM_11) (hLC.in hg0 (by decide)) (by decide) rfl rfl rfl hl.1 rfl (Nat.le_of_ble_eq_true rfl) ⟨(Nat.le_of_ble_eq_true rfl), (Nat.le_of_ble_eq_true rfl)⟩ ⟨(Nat.le_of_ble_eq_true rfl), (Nat.le_of_ble_eq_true rfl)⟩ dX9_saysNumberOf_24) (fun hp_10 H locs hH => ?_)
      obtain ⟨x_12, ex_12, hf⟩ := gst_s hf
      have hx_12 : gRI x_12 := by rw [ex_12]; exact gwi_r _
      refine r_iinc (lv' := [(3, .int (gi x_12)), (0, .ref (w.1 + a0)), (1, .int (gi x1)), (2, .int (gi x2))]) hM.fx dX9_saysNumberOf_27 hl (k := 3) rfl (by decide) (by rw [ex_12]; rfl) (fun ls hl => ?_)
      refine lv_goto (tgt := 3) hM.fx.1 hM.fx.2.1 dX9_saysNumberOf_30 (by decide) ?_
      exact ih _ _ _ _ _ _ hg0 hr1 hr2 hx_12 hf _ _ _ hH (lv_sub hl [1, 2, 3, 0] rfl)
def fX9_saysNumberOf (g : Nat → Nat) (a0 : Nat) (x1 : Int) (x2 : Int) (M : gMem) : Option gMem :=
  fX9_saysNumberOf_3 g gF a0 x1 x2 19 M
set_option maxHeartbeats 4000000 in
set_option maxRecDepth 100000 in
theorem mX9_saysNumberOf {w : gW} {n : Nat} {Rm : Nat → Nat → Nat} {g : Nat → Nat} (hLC : gLC g n Rm) {l : Launch} (hl9 : l.stackTraces = false) {a0 : Nat} {x1 : Int} {x2 : Int} {M : gMem} {r : gMem} (hg0 : g a0 = 9) (hr1 : gRI x1) (hr2 : gRI x2) (hf : fX9_saysNumberOf g a0 x1 x2 M = some r) : gMT w n Rm l yX9_saysNumberOf cX9_saysNumberOf 4 none 2 83 0 0 [.ref (w.1 + a0), .int (gi x1), .int (gi x2)] M (.inr none) r True := by
  unfold fX9_saysNumberOf at hf
  refine gMT.of hl9 (by decide +kernel) ((Nat.le_of_ble_eq_true rfl)) ?_
  intro p e s m below meth c hM hH ls hl
  have hM : gMC w p l s m ([.ref (w.1 + a0), .int (gi x1), .int (gi x2)] : List Value).toArray meth c cX9_saysNumberOf 4 RX9 none := hM
  have hl : lv_has ls 4 [(0, .ref (w.1 + a0)), (1, .int (gi x1)), (2, .int (gi x2))] := hl
  refine lv_bipush (v := gi (19)) hM.fx.1 hM.fx.2.1 dX9_saysNumberOf_0 (by decide) ?_
  refine lv_istore_n (lv' := [(3, .int (gi 19)), (0, .ref (w.1 + a0)), (1, .int (gi x1)), (2, .int (gi x2))]) hM.fx.1 hM.fx.2.1 dX9_saysNumberOf_2 rfl hl (by decide) rfl (fun ls hl => ?_)
  exact wX9_saysNumberOf_3 hLC hM  gF _ _ _ _ _ _ hg0 hr1 hr2 (gcR (k := 19) (by decide)) hf _ _ _ hH (lv_sub hl [1, 2, 3, 0] rfl)
def fX9_goes (g : Nat → Nat) (a0 : Nat) (x1 : Int) (x2 : Int) (x3 : Int) (M : gMem) : Option gMem :=
  (fX9_puts g a0 x1 2 x2 M).bind fun M_2 => (fX9_puts g a0 x1 3 x3 M_2).bind fun M_4 => (fX9_ofStack g a0 x1 4 M_4).bind fun x_6 => (fX9_puts g a0 x1 4 (gwi (x_6 + 1)) M_4).bind fun M_8 => some M_8
set_option maxHeartbeats 4000000 in
set_option maxRecDepth 100000 in
theorem mX9_goes {w : gW} {n : Nat} {Rm : Nat → Nat → Nat} {g : Nat → Nat} (hLC : gLC g n Rm) {l : Launch} (hl9 : l.stackTraces = false) {a0 : Nat} {x1 : Int} {x2 : Int} {x3 : Int} {M : gMem} {r : gMem} (hg0 : g a0 = 9) (hr1 : gRI x1) (hr2 : gRI x2) (hr3 : gRI x3) (hf : fX9_goes g a0 x1 x2 x3 M = some r) : gMT w n Rm l yX9_goes cX9_goes 4 none 2 83 0 0 [.ref (w.1 + a0), .int (gi x1), .int (gi x2), .int (gi x3)] M (.inr none) r True := by
  unfold fX9_goes at hf
  refine gMT.of hl9 (by decide +kernel) ((Nat.le_of_ble_eq_true rfl)) ?_
  intro p e s m below meth c hM hH ls hl
  have hM : gMC w p l s m ([.ref (w.1 + a0), .int (gi x1), .int (gi x2), .int (gi x3)] : List Value).toArray meth c cX9_goes 4 RX9 none := hM
  have hl : lv_has ls 4 [(0, .ref (w.1 + a0)), (1, .int (gi x1)), (2, .int (gi x2)), (3, .int (gi x3))] := hl
  refine lv_aload_n hM.fx.1 hM.fx.2.1 dX9_goes_0 rfl (lv_at hl 0 rfl) ?_
  refine lv_iload_n hM.fx.1 hM.fx.2.1 dX9_goes_1 rfl (lv_at hl 1 rfl) ?_
  refine lv_iconst (v := gi (2)) hM.fx.1 hM.fx.2.1 dX9_goes_2 rfl ?_
  refine lv_iload_n hM.fx.1 hM.fx.2.1 dX9_goes_3 rfl (lv_at hl 2 rfl) ?_
  obtain ⟨M_2, eM_2, hf⟩ := gbd hf
  refine r_go0 hH rfl (r_runV (As := [.int (gi x1), .int (gi 2), .int (gi x2)]) hM hH cv_X9_219 (mX9_puts hLC hM.ns hg0 hr1 (gcR (k := 2) (by decide)) hr2 eM_2) (hLC.in hg0 (by decide)) (by decide) rfl rfl rfl hl.1 rfl (Nat.le_of_ble_eq_true rfl) ⟨(Nat.le_of_ble_eq_true rfl), (Nat.le_of_ble_eq_true rfl)⟩ ⟨(Nat.le_of_ble_eq_true rfl), (Nat.le_of_ble_eq_true rfl)⟩ dX9_goes_4) (fun hp_1 H locs hH => ?_)
  refine lv_aload_n hM.fx.1 hM.fx.2.1 dX9_goes_7 rfl (lv_at hl 0 rfl) ?_
  refine lv_iload_n hM.fx.1 hM.fx.2.1 dX9_goes_8 rfl (lv_at hl 1 rfl) ?_
  refine lv_iconst (v := gi (3)) hM.fx.1 hM.fx.2.1 dX9_goes_9 rfl ?_
  refine lv_iload_n hM.fx.1 hM.fx.2.1 dX9_goes_10 rfl (lv_at hl 3 rfl) ?_
  obtain ⟨M_4, eM_4, hf⟩ := gbd hf
  refine r_go0 hH rfl (r_runV (As := [.int (gi x1), .int (gi 3), .int (gi x3)]) hM hH cv_X9_219 (mX9_puts hLC hM.ns hg0 hr1 (gcR (k := 3) (by decide)) hr3 eM_4) (hLC.in hg0 (by decide)) (by decide) rfl rfl rfl hl.1 rfl (Nat.le_of_ble_eq_true rfl) ⟨(Nat.le_of_ble_eq_true rfl), (Nat.le_of_ble_eq_true rfl)⟩ ⟨(Nat.le_of_ble_eq_true rfl), (Nat.le_of_ble_eq_true rfl)⟩ dX9_goes_11) (fun hp_3 H locs hH => ?_)
  refine lv_aload_n hM.fx.1 hM.fx.2.1 dX9_goes_14 rfl (lv_at hl 0 rfl) ?_
  refine lv_iload_n hM.fx.1 hM.fx.2.1 dX9_goes_15 rfl (lv_at hl 1 rfl) ?_
  refine lv_iconst (v := gi (4)) hM.fx.1 hM.fx.2.1 dX9_goes_16 rfl ?_
  refine lv_aload_n hM.fx.1 hM.fx.2.1 dX9_goes_17 rfl (lv_at hl 0 rfl) ?_
  refine lv_iload_n hM.fx.1 hM.fx.2.1 dX9_goes_18 rfl (lv_at hl 1 rfl) ?_
  refine lv_iconst (v := gi (4)) hM.fx.1 hM.fx.2.1 dX9_goes_19 rfl ?_
  obtain ⟨x_6, ex_6, hf⟩ := gbd hf
  refine r_go1 hH rfl (r_runV (As := [.int (gi x1), .int (gi 4)]) hM hH cv_X9_232 (mX9_ofStack hLC hM.ns hg0 hr1 (gcR (k := 4) (by decide)) ex_6) (hLC.in hg0 (by decide)) (by decide) rfl rfl rfl hl.1 rfl (Nat.le_of_ble_eq_true rfl) ⟨(Nat.le_of_ble_eq_true rfl), (Nat.le_of_ble_eq_true rfl)⟩ ⟨(Nat.le_of_ble_eq_true rfl), (Nat.le_of_ble_eq_true rfl)⟩ dX9_goes_20) (fun hp_5 H locs hH => ?_)
  refine lv_iconst (v := gi (1)) hM.fx.1 hM.fx.2.1 dX9_goes_23 rfl ?_
  refine r_iadd hM.fx dX9_goes_24 ?_
  obtain ⟨M_8, eM_8, hf⟩ := gbd hf
  refine r_go0 hH rfl (r_runV (As := [.int (gi x1), .int (gi 4), .int (gi (gwi (x_6 + 1)))]) hM hH cv_X9_219 (mX9_puts hLC hM.ns hg0 hr1 (gcR (k := 4) (by decide)) (gwi_r _) eM_8) (hLC.in hg0 (by decide)) (by decide) rfl rfl rfl hl.1 rfl (Nat.le_of_ble_eq_true rfl) ⟨(Nat.le_of_ble_eq_true rfl), (Nat.le_of_ble_eq_true rfl)⟩ ⟨(Nat.le_of_ble_eq_true rfl), (Nat.le_of_ble_eq_true rfl)⟩ dX9_goes_25) (fun hp_7 H locs hH => ?_)
  obtain rfl := Option.some.inj hf
  exact r_vret hM hH trivial ⟨(Nat.le_of_ble_eq_true rfl), (Nat.le_of_ble_eq_true rfl)⟩ dX9_goes_28
def fX9_exchanges_19 (g : Nat → Nat)  (a0 : Nat) (x1 : Int) (x4 : Int) (M : gMem) : Option gMem :=
  if x4 = (-1) then (some M) else ((fX9_goes g a0 x4 x1 ((-1)) M).bind fun M_3 => some M_3)
set_option maxHeartbeats 4000000 in
set_option maxRecDepth 100000 in
theorem wX9_exchanges_19 {w : gW} {n : Nat} {Rm : Nat → Nat → Nat} {g : Nat → Nat} (hLC : gLC g n Rm) {p : Program} {l : Launch} {e : Env} {s : State} {m : MethodId} {args : Array Value} {below : List Frame} {meth : Method} {c : Code} (hM : gMC w p l s m args meth c cX9_exchanges 5 RX9 none)  : ∀ (a0 : Nat) (x1 : Int) (x4 : Int) (M : gMem) (r : gMem) (hg0 : g a0 = 9) (hr1 : gRI x1) (hr4 : gRI x4) (hf : fX9_exchanges_19 g a0 x1 x4 M = some r) (H : Heap) (locs : List Loc) (ls : Array Slot) (hH : gH w n Rm M s H locs) (hl : lv_has ls 5 [(0, .ref (w.1 + a0)), (1, .int (gi x1)), (4, .int (gi x4))]), W p l e { frames := 3, cells := 0, slots := 0, locals := 106 } s m args below meth c H locs 0 0 (gQ w n Rm below args s 0 0 (.inr none) r True) (F0 m 19 ls []) := by
  intro a0 x1 x4 M r hg0 hr1 hr4 hf H locs ls hH hl
  unfold fX9_exchanges_19 at hf
  refine lv_iload hM.fx.1 hM.fx.2.1 dX9_exchanges_19 (lv_at hl 2 rfl) ?_
  refine lv_iconst (v := gi (-1)) hM.fx.1 hM.fx.2.1 dX9_exchanges_21 rfl ?_
  refine r_icmp_eq (tgt := 33) hM.fx hr4 (gcR (k := -1) (by decide)) dX9_exchanges_22 (by decide) (fun h_1 => ?_) (fun h_1 => ?_)
  · have hf := gpos h_1 hf
    obtain rfl := Option.some.inj hf
    exact r_vret hM hH trivial ⟨(Nat.le_of_ble_eq_true rfl), (Nat.le_of_ble_eq_true rfl)⟩ dX9_exchanges_33
  · have hf := gneg' h_1 hf
    refine lv_aload_n hM.fx.1 hM.fx.2.1 dX9_exchanges_25 rfl (lv_at hl 0 rfl) ?_
    refine lv_iload hM.fx.1 hM.fx.2.1 dX9_exchanges_26 (lv_at hl 2 rfl) ?_
    refine lv_iload_n hM.fx.1 hM.fx.2.1 dX9_exchanges_28 rfl (lv_at hl 1 rfl) ?_
    refine lv_iconst (v := gi (-1)) hM.fx.1 hM.fx.2.1 dX9_exchanges_29 rfl ?_
    obtain ⟨M_3, eM_3, hf⟩ := gbd hf
    refine r_go0 hH rfl (r_runV (As := [.int (gi x4), .int (gi x1), .int (gi ((-1)))]) hM hH cv_X9_267 (mX9_goes hLC hM.ns hg0 hr4 hr1 (gcR (k := -1) (by decide)) eM_3) (hLC.in hg0 (by decide)) (by decide) rfl rfl rfl hl.1 rfl (Nat.le_of_ble_eq_true rfl) ⟨(Nat.le_of_ble_eq_true rfl), (Nat.le_of_ble_eq_true rfl)⟩ ⟨(Nat.le_of_ble_eq_true rfl), (Nat.le_of_ble_eq_true rfl)⟩ dX9_exchanges_30) (fun hp_2 H locs hH => ?_)
    obtain rfl := Option.some.inj hf
    exact r_vret hM hH trivial ⟨(Nat.le_of_ble_eq_true rfl), (Nat.le_of_ble_eq_true rfl)⟩ dX9_exchanges_33
def fX9_exchanges (g : Nat → Nat) (a0 : Nat) (x1 : Int) (x2 : Int) (x3 : Int) (M : gMem) : Option gMem :=
  (fX9_onSlot g a0 x3 M).bind fun x_2 => if x2 = (-1) then (fX9_exchanges_19 g a0 x1 x_2 M) else ((fX9_goes g a0 x2 ((-1)) x3 M).bind fun M_5 => fX9_exchanges_19 g a0 x1 x_2 M_5)
set_option maxHeartbeats 4000000 in
set_option maxRecDepth 100000 in
theorem mX9_exchanges {w : gW} {n : Nat} {Rm : Nat → Nat → Nat} {g : Nat → Nat} (hLC : gLC g n Rm) {l : Launch} (hl9 : l.stackTraces = false) {a0 : Nat} {x1 : Int} {x2 : Int} {x3 : Int} {M : gMem} {r : gMem} (hg0 : g a0 = 9) (hr1 : gRI x1) (hr2 : gRI x2) (hr3 : gRI x3) (hf : fX9_exchanges g a0 x1 x2 x3 M = some r) : gMT w n Rm l yX9_exchanges cX9_exchanges 5 none 3 106 0 0 [.ref (w.1 + a0), .int (gi x1), .int (gi x2), .int (gi x3)] M (.inr none) r True := by
  unfold fX9_exchanges at hf
  refine gMT.of hl9 (by decide +kernel) ((Nat.le_of_ble_eq_true rfl)) ?_
  intro p e s m below meth c hM hH ls hl
  have hM : gMC w p l s m ([.ref (w.1 + a0), .int (gi x1), .int (gi x2), .int (gi x3)] : List Value).toArray meth c cX9_exchanges 5 RX9 none := hM
  have hl : lv_has ls 5 [(0, .ref (w.1 + a0)), (1, .int (gi x1)), (2, .int (gi x2)), (3, .int (gi x3))] := hl
  refine lv_aload_n hM.fx.1 hM.fx.2.1 dX9_exchanges_0 rfl (lv_at hl 0 rfl) ?_
  refine lv_iload_n hM.fx.1 hM.fx.2.1 dX9_exchanges_1 rfl (lv_at hl 3 rfl) ?_
  obtain ⟨x_2, ex_2, hf⟩ := gbd hf
  refine r_go1 hH rfl (r_runV (As := [.int (gi x3)]) hM hH cv_X9_216 (mX9_onSlot hLC hM.ns hg0 hr3 ex_2) (hLC.in hg0 (by decide)) (by decide) rfl rfl rfl hl.1 rfl (Nat.le_of_ble_eq_true rfl) ⟨(Nat.le_of_ble_eq_true rfl), (Nat.le_of_ble_eq_true rfl)⟩ ⟨(Nat.le_of_ble_eq_true rfl), (Nat.le_of_ble_eq_true rfl)⟩ dX9_exchanges_2) (fun hp_1 H locs hH => ?_)
  refine lv_istore (lv' := [(4, .int (gi x_2)), (0, .ref (w.1 + a0)), (1, .int (gi x1)), (2, .int (gi x2)), (3, .int (gi x3))]) hM.fx.1 hM.fx.2.1 dX9_exchanges_5 hl (by decide) rfl (fun ls hl => ?_)
  refine lv_iload_n hM.fx.1 hM.fx.2.1 dX9_exchanges_7 rfl (lv_at hl 3 rfl) ?_
  refine lv_iconst (v := gi (-1)) hM.fx.1 hM.fx.2.1 dX9_exchanges_8 rfl ?_
  refine r_icmp_eq (tgt := 19) hM.fx hr2 (gcR (k := -1) (by decide)) dX9_exchanges_9 (by decide) (fun h_3 => ?_) (fun h_3 => ?_)
  · have hf := gpos h_3 hf
    exact wX9_exchanges_19 hLC hM   _ _ _ _ _ hg0 hr1 hp_1 hf _ _ _ hH (lv_sub hl [1, 2, 0] rfl)
  · have hf := gneg' h_3 hf
    refine lv_aload_n hM.fx.1 hM.fx.2.1 dX9_exchanges_12 rfl (lv_at hl 1 rfl) ?_
    refine lv_iload_n hM.fx.1 hM.fx.2.1 dX9_exchanges_13 rfl (lv_at hl 3 rfl) ?_
    refine lv_iconst (v := gi (-1)) hM.fx.1 hM.fx.2.1 dX9_exchanges_14 rfl ?_
    refine lv_iload_n hM.fx.1 hM.fx.2.1 dX9_exchanges_15 rfl (lv_at hl 4 rfl) ?_
    obtain ⟨M_5, eM_5, hf⟩ := gbd hf
    refine r_go0 hH rfl (r_runV (As := [.int (gi x2), .int (gi ((-1))), .int (gi x3)]) hM hH cv_X9_267 (mX9_goes hLC hM.ns hg0 hr2 (gcR (k := -1) (by decide)) hr3 eM_5) (hLC.in hg0 (by decide)) (by decide) rfl rfl rfl hl.1 rfl (Nat.le_of_ble_eq_true rfl) ⟨(Nat.le_of_ble_eq_true rfl), (Nat.le_of_ble_eq_true rfl)⟩ ⟨(Nat.le_of_ble_eq_true rfl), (Nat.le_of_ble_eq_true rfl)⟩ dX9_exchanges_16) (fun hp_4 H locs hH => ?_)
    exact wX9_exchanges_19 hLC hM   _ _ _ _ _ hg0 hr1 hp_1 hf _ _ _ hH (lv_sub hl [1, 2, 0] rfl)
def fX9_flips (g : Nat → Nat) (a0 : Nat) (x1 : Int) (M : gMem) : Option gMem :=
  (fX9_numberOf g a0 x1 0 M).bind fun x_2 => (fX9_numberOf g a0 x1 1 M).bind fun x_4 => (fX9_pops g a0 x1 M).bind fun M_6 => (fX9_pops g a0 x1 M_6).bind fun M_8 => (fX9_pushes g a0 x1 x_2 M_8).bind fun M_10 => (fX9_pushes g a0 x1 x_4 M_10).bind fun M_12 => some M_12
set_option maxHeartbeats 4000000 in
set_option maxRecDepth 100000 in
theorem mX9_flips {w : gW} {n : Nat} {Rm : Nat → Nat → Nat} {g : Nat → Nat} (hLC : gLC g n Rm) {l : Launch} (hl9 : l.stackTraces = false) {a0 : Nat} {x1 : Int} {M : gMem} {r : gMem} (hg0 : g a0 = 9) (hr1 : gRI x1) (hf : fX9_flips g a0 x1 M = some r) : gMT w n Rm l yX9_flips cX9_flips 4 none 3 105 0 0 [.ref (w.1 + a0), .int (gi x1)] M (.inr none) r True := by
  unfold fX9_flips at hf
  refine gMT.of hl9 (by decide +kernel) ((Nat.le_of_ble_eq_true rfl)) ?_
  intro p e s m below meth c hM hH ls hl
  have hM : gMC w p l s m ([.ref (w.1 + a0), .int (gi x1)] : List Value).toArray meth c cX9_flips 4 RX9 none := hM
  have hl : lv_has ls 4 [(0, .ref (w.1 + a0)), (1, .int (gi x1))] := hl
  refine lv_aload_n hM.fx.1 hM.fx.2.1 dX9_flips_0 rfl (lv_at hl 0 rfl) ?_
  refine lv_iload_n hM.fx.1 hM.fx.2.1 dX9_flips_1 rfl (lv_at hl 1 rfl) ?_
  refine lv_iconst (v := gi (0)) hM.fx.1 hM.fx.2.1 dX9_flips_2 rfl ?_
  obtain ⟨x_2, ex_2, hf⟩ := gbd hf
  refine r_go1 hH rfl (r_runV (As := [.int (gi x1), .int (gi 0)]) hM hH cv_X9_235 (mX9_numberOf hLC hM.ns hg0 hr1 (gcR (k := 0) (by decide)) ex_2) (hLC.in hg0 (by decide)) (by decide) rfl rfl rfl hl.1 rfl (Nat.le_of_ble_eq_true rfl) ⟨(Nat.le_of_ble_eq_true rfl), (Nat.le_of_ble_eq_true rfl)⟩ ⟨(Nat.le_of_ble_eq_true rfl), (Nat.le_of_ble_eq_true rfl)⟩ dX9_flips_3) (fun hp_1 H locs hH => ?_)
  refine lv_istore_n (lv' := [(2, .int (gi x_2)), (0, .ref (w.1 + a0)), (1, .int (gi x1))]) hM.fx.1 hM.fx.2.1 dX9_flips_6 rfl hl (by decide) rfl (fun ls hl => ?_)
  refine lv_aload_n hM.fx.1 hM.fx.2.1 dX9_flips_7 rfl (lv_at hl 1 rfl) ?_
  refine lv_iload_n hM.fx.1 hM.fx.2.1 dX9_flips_8 rfl (lv_at hl 2 rfl) ?_
  refine lv_iconst (v := gi (1)) hM.fx.1 hM.fx.2.1 dX9_flips_9 rfl ?_
  obtain ⟨x_4, ex_4, hf⟩ := gbd hf
  refine r_go1 hH rfl (r_runV (As := [.int (gi x1), .int (gi 1)]) hM hH cv_X9_235 (mX9_numberOf hLC hM.ns hg0 hr1 (gcR (k := 1) (by decide)) ex_4) (hLC.in hg0 (by decide)) (by decide) rfl rfl rfl hl.1 rfl (Nat.le_of_ble_eq_true rfl) ⟨(Nat.le_of_ble_eq_true rfl), (Nat.le_of_ble_eq_true rfl)⟩ ⟨(Nat.le_of_ble_eq_true rfl), (Nat.le_of_ble_eq_true rfl)⟩ dX9_flips_10) (fun hp_3 H locs hH => ?_)
  refine lv_istore_n (lv' := [(3, .int (gi x_4)), (2, .int (gi x_2)), (0, .ref (w.1 + a0)), (1, .int (gi x1))]) hM.fx.1 hM.fx.2.1 dX9_flips_13 rfl hl (by decide) rfl (fun ls hl => ?_)
  refine lv_aload_n hM.fx.1 hM.fx.2.1 dX9_flips_14 rfl (lv_at hl 2 rfl) ?_
  refine lv_iload_n hM.fx.1 hM.fx.2.1 dX9_flips_15 rfl (lv_at hl 3 rfl) ?_
  obtain ⟨M_6, eM_6, hf⟩ := gbd hf
  refine r_go0 hH rfl (r_runV (As := [.int (gi x1)]) hM hH cv_X9_273 (mX9_pops hLC hM.ns hg0 hr1 eM_6) (hLC.in hg0 (by decide)) (by decide) rfl rfl rfl hl.1 rfl (Nat.le_of_ble_eq_true rfl) ⟨(Nat.le_of_ble_eq_true rfl), (Nat.le_of_ble_eq_true rfl)⟩ ⟨(Nat.le_of_ble_eq_true rfl), (Nat.le_of_ble_eq_true rfl)⟩ dX9_flips_16) (fun hp_5 H locs hH => ?_)
  refine lv_aload_n hM.fx.1 hM.fx.2.1 dX9_flips_19 rfl (lv_at hl 2 rfl) ?_
  refine lv_iload_n hM.fx.1 hM.fx.2.1 dX9_flips_20 rfl (lv_at hl 3 rfl) ?_
  obtain ⟨M_8, eM_8, hf⟩ := gbd hf
  refine r_go0 hH rfl (r_runV (As := [.int (gi x1)]) hM hH cv_X9_273 (mX9_pops hLC hM.ns hg0 hr1 eM_8) (hLC.in hg0 (by decide)) (by decide) rfl rfl rfl hl.1 rfl (Nat.le_of_ble_eq_true rfl) ⟨(Nat.le_of_ble_eq_true rfl), (Nat.le_of_ble_eq_true rfl)⟩ ⟨(Nat.le_of_ble_eq_true rfl), (Nat.le_of_ble_eq_true rfl)⟩ dX9_flips_21) (fun hp_7 H locs hH => ?_)
  refine lv_aload_n hM.fx.1 hM.fx.2.1 dX9_flips_24 rfl (lv_at hl 2 rfl) ?_
  refine lv_iload_n hM.fx.1 hM.fx.2.1 dX9_flips_25 rfl (lv_at hl 3 rfl) ?_
  refine lv_iload_n hM.fx.1 hM.fx.2.1 dX9_flips_26 rfl (lv_at hl 1 rfl) ?_
  obtain ⟨M_10, eM_10, hf⟩ := gbd hf
  refine r_go0 hH rfl (r_runV (As := [.int (gi x1), .int (gi x_2)]) hM hH cv_X9_270 (mX9_pushes hLC hM.ns hg0 hr1 hp_1 eM_10) (hLC.in hg0 (by decide)) (by decide) rfl rfl rfl hl.1 rfl (Nat.le_of_ble_eq_true rfl) ⟨(Nat.le_of_ble_eq_true rfl), (Nat.le_of_ble_eq_true rfl)⟩ ⟨(Nat.le_of_ble_eq_true rfl), (Nat.le_of_ble_eq_true rfl)⟩ dX9_flips_27) (fun hp_9 H locs hH => ?_)
  refine lv_aload_n hM.fx.1 hM.fx.2.1 dX9_flips_30 rfl (lv_at hl 2 rfl) ?_
  refine lv_iload_n hM.fx.1 hM.fx.2.1 dX9_flips_31 rfl (lv_at hl 3 rfl) ?_
  refine lv_iload_n hM.fx.1 hM.fx.2.1 dX9_flips_32 rfl (lv_at hl 0 rfl) ?_
  obtain ⟨M_12, eM_12, hf⟩ := gbd hf
  refine r_go0 hH rfl (r_runV (As := [.int (gi x1), .int (gi x_4)]) hM hH cv_X9_270 (mX9_pushes hLC hM.ns hg0 hr1 hp_3 eM_12) (hLC.in hg0 (by decide)) (by decide) rfl rfl rfl hl.1 rfl (Nat.le_of_ble_eq_true rfl) ⟨(Nat.le_of_ble_eq_true rfl), (Nat.le_of_ble_eq_true rfl)⟩ ⟨(Nat.le_of_ble_eq_true rfl), (Nat.le_of_ble_eq_true rfl)⟩ dX9_flips_33) (fun hp_11 H locs hH => ?_)
  obtain rfl := Option.some.inj hf
  exact r_vret hM hH trivial ⟨(Nat.le_of_ble_eq_true rfl), (Nat.le_of_ble_eq_true rfl)⟩ dX9_flips_36
def fX9_reckons (g : Nat → Nat) (a0 : Nat) (x1 : Int) (x2 : Int) (M : gMem) : Option gMem :=
  (fX9_resultOf g a0 x1 x2 M).bind fun x_2 => gst (gwi x_2) fun x_3 => (fX9_pops g a0 x1 M).bind fun M_5 => (fX9_pops g a0 x1 M_5).bind fun M_7 => (fX9_pushes g a0 x1 x_3 M_7).bind fun M_9 => some M_9
set_option maxHeartbeats 4000000 in
set_option maxRecDepth 100000 in
theorem mX9_reckons {w : gW} {n : Nat} {Rm : Nat → Nat → Nat} {g : Nat → Nat} (hLC : gLC g n Rm) {l : Launch} (hl9 : l.stackTraces = false) {a0 : Nat} {x1 : Int} {x2 : Int} {M : gMem} {r : gMem} (hg0 : g a0 = 9) (hr1 : gRI x1) (hr2 : gRI x2) (hf : fX9_reckons g a0 x1 x2 M = some r) : gMT w n Rm l yX9_reckons cX9_reckons 4 none 4 130 0 0 [.ref (w.1 + a0), .int (gi x1), .int (gi x2)] M (.inr none) r True := by
  unfold fX9_reckons at hf
  refine gMT.of hl9 (by decide +kernel) ((Nat.le_of_ble_eq_true rfl)) ?_
  intro p e s m below meth c hM hH ls hl
  have hM : gMC w p l s m ([.ref (w.1 + a0), .int (gi x1), .int (gi x2)] : List Value).toArray meth c cX9_reckons 4 RX9 none := hM
  have hl : lv_has ls 4 [(0, .ref (w.1 + a0)), (1, .int (gi x1)), (2, .int (gi x2))] := hl
  refine lv_aload_n hM.fx.1 hM.fx.2.1 dX9_reckons_0 rfl (lv_at hl 0 rfl) ?_
  refine lv_iload_n hM.fx.1 hM.fx.2.1 dX9_reckons_1 rfl (lv_at hl 1 rfl) ?_
  refine lv_iload_n hM.fx.1 hM.fx.2.1 dX9_reckons_2 rfl (lv_at hl 2 rfl) ?_
  obtain ⟨x_2, ex_2, hf⟩ := gbd hf
  refine r_go1 hH rfl (r_runV (As := [.int (gi x1), .int (gi x2)]) hM hH cv_X9_244 (mX9_resultOf hLC hM.ns hg0 hr1 hr2 ex_2) (hLC.in hg0 (by decide)) (by decide) rfl rfl rfl hl.1 rfl (Nat.le_of_ble_eq_true rfl) ⟨(Nat.le_of_ble_eq_true rfl), (Nat.le_of_ble_eq_true rfl)⟩ ⟨(Nat.le_of_ble_eq_true rfl), (Nat.le_of_ble_eq_true rfl)⟩ dX9_reckons_3) (fun hp_1 H locs hH => ?_)
  refine r_l2i hM.fx dX9_reckons_6 ?_
  obtain ⟨x_3, ex_3, hf⟩ := gst_s hf
  refine W.eq (g2 := F0 m _ ls (.int (gi x_3) :: _)) (by rw [ex_3]) ?_
  have hx_3 : gRI x_3 := by rw [ex_3]; exact (gwi_r _)
  refine lv_istore_n (lv' := [(3, .int (gi x_3)), (0, .ref (w.1 + a0)), (1, .int (gi x1)), (2, .int (gi x2))]) hM.fx.1 hM.fx.2.1 dX9_reckons_7 rfl hl (by decide) rfl (fun ls hl => ?_)
  refine lv_aload_n hM.fx.1 hM.fx.2.1 dX9_reckons_8 rfl (lv_at hl 1 rfl) ?_
  refine lv_iload_n hM.fx.1 hM.fx.2.1 dX9_reckons_9 rfl (lv_at hl 2 rfl) ?_
  obtain ⟨M_5, eM_5, hf⟩ := gbd hf
  refine r_go0 hH rfl (r_runV (As := [.int (gi x1)]) hM hH cv_X9_273 (mX9_pops hLC hM.ns hg0 hr1 eM_5) (hLC.in hg0 (by decide)) (by decide) rfl rfl rfl hl.1 rfl (Nat.le_of_ble_eq_true rfl) ⟨(Nat.le_of_ble_eq_true rfl), (Nat.le_of_ble_eq_true rfl)⟩ ⟨(Nat.le_of_ble_eq_true rfl), (Nat.le_of_ble_eq_true rfl)⟩ dX9_reckons_10) (fun hp_4 H locs hH => ?_)
  refine lv_aload_n hM.fx.1 hM.fx.2.1 dX9_reckons_13 rfl (lv_at hl 1 rfl) ?_
  refine lv_iload_n hM.fx.1 hM.fx.2.1 dX9_reckons_14 rfl (lv_at hl 2 rfl) ?_
  obtain ⟨M_7, eM_7, hf⟩ := gbd hf
  refine r_go0 hH rfl (r_runV (As := [.int (gi x1)]) hM hH cv_X9_273 (mX9_pops hLC hM.ns hg0 hr1 eM_7) (hLC.in hg0 (by decide)) (by decide) rfl rfl rfl hl.1 rfl (Nat.le_of_ble_eq_true rfl) ⟨(Nat.le_of_ble_eq_true rfl), (Nat.le_of_ble_eq_true rfl)⟩ ⟨(Nat.le_of_ble_eq_true rfl), (Nat.le_of_ble_eq_true rfl)⟩ dX9_reckons_15) (fun hp_6 H locs hH => ?_)
  refine lv_aload_n hM.fx.1 hM.fx.2.1 dX9_reckons_18 rfl (lv_at hl 1 rfl) ?_
  refine lv_iload_n hM.fx.1 hM.fx.2.1 dX9_reckons_19 rfl (lv_at hl 2 rfl) ?_
  refine lv_iload_n hM.fx.1 hM.fx.2.1 dX9_reckons_20 rfl (lv_at hl 0 rfl) ?_
  obtain ⟨M_9, eM_9, hf⟩ := gbd hf
  refine r_go0 hH rfl (r_runV (As := [.int (gi x1), .int (gi x_3)]) hM hH cv_X9_270 (mX9_pushes hLC hM.ns hg0 hr1 hx_3 eM_9) (hLC.in hg0 (by decide)) (by decide) rfl rfl rfl hl.1 rfl (Nat.le_of_ble_eq_true rfl) ⟨(Nat.le_of_ble_eq_true rfl), (Nat.le_of_ble_eq_true rfl)⟩ ⟨(Nat.le_of_ble_eq_true rfl), (Nat.le_of_ble_eq_true rfl)⟩ dX9_reckons_21) (fun hp_8 H locs hH => ?_)
  obtain rfl := Option.some.inj hf
  exact r_vret hM hH trivial ⟨(Nat.le_of_ble_eq_true rfl), (Nat.le_of_ble_eq_true rfl)⟩ dX9_reckons_24
def fX9_says1 (g : Nat → Nat) (a0 : Nat) (x1 : Int) (x2 : Int) (M : gMem) : Option gMem :=
  (fX9_numberOf g a0 x2 0 M).bind fun x_2 => (fX9_saysNumberOf g a0 x1 x_2 M).bind fun M_4 => (fX9_pops g a0 x2 M_4).bind fun M_6 => some M_6
set_option maxHeartbeats 4000000 in
set_option maxRecDepth 100000 in
theorem mX9_says1 {w : gW} {n : Nat} {Rm : Nat → Nat → Nat} {g : Nat → Nat} (hLC : gLC g n Rm) {l : Launch} (hl9 : l.stackTraces = false) {a0 : Nat} {x1 : Int} {x2 : Int} {M : gMem} {r : gMem} (hg0 : g a0 = 9) (hr1 : gRI x1) (hr2 : gRI x2) (hf : fX9_says1 g a0 x1 x2 M = some r) : gMT w n Rm l yX9_says1 cX9_says1 3 none 3 106 0 0 [.ref (w.1 + a0), .int (gi x1), .int (gi x2)] M (.inr none) r True := by
  unfold fX9_says1 at hf
  refine gMT.of hl9 (by decide +kernel) ((Nat.le_of_ble_eq_true rfl)) ?_
  intro p e s m below meth c hM hH ls hl
  have hM : gMC w p l s m ([.ref (w.1 + a0), .int (gi x1), .int (gi x2)] : List Value).toArray meth c cX9_says1 3 RX9 none := hM
  have hl : lv_has ls 3 [(0, .ref (w.1 + a0)), (1, .int (gi x1)), (2, .int (gi x2))] := hl
  refine lv_aload_n hM.fx.1 hM.fx.2.1 dX9_says1_0 rfl (lv_at hl 0 rfl) ?_
  refine lv_iload_n hM.fx.1 hM.fx.2.1 dX9_says1_1 rfl (lv_at hl 1 rfl) ?_
  refine lv_aload_n hM.fx.1 hM.fx.2.1 dX9_says1_2 rfl (lv_at hl 0 rfl) ?_
  refine lv_iload_n hM.fx.1 hM.fx.2.1 dX9_says1_3 rfl (lv_at hl 2 rfl) ?_
  refine lv_iconst (v := gi (0)) hM.fx.1 hM.fx.2.1 dX9_says1_4 rfl ?_
  obtain ⟨x_2, ex_2, hf⟩ := gbd hf
  refine r_go1 hH rfl (r_runV (As := [.int (gi x2), .int (gi 0)]) hM hH cv_X9_235 (mX9_numberOf hLC hM.ns hg0 hr2 (gcR (k := 0) (by decide)) ex_2) (hLC.in hg0 (by decide)) (by decide) rfl rfl rfl hl.1 rfl (Nat.le_of_ble_eq_true rfl) ⟨(Nat.le_of_ble_eq_true rfl), (Nat.le_of_ble_eq_true rfl)⟩ ⟨(Nat.le_of_ble_eq_true rfl), (Nat.le_of_ble_eq_true rfl)⟩ dX9_says1_5) (fun hp_1 H locs hH => ?_)
  obtain ⟨M_4, eM_4, hf⟩ := gbd hf
  refine r_go0 hH rfl (r_runV (As := [.int (gi x1), .int (gi x_2)]) hM hH cv_X9_291 (mX9_saysNumberOf hLC hM.ns hg0 hr1 hp_1 eM_4) (hLC.in hg0 (by decide)) (by decide) rfl rfl rfl hl.1 rfl (Nat.le_of_ble_eq_true rfl) ⟨(Nat.le_of_ble_eq_true rfl), (Nat.le_of_ble_eq_true rfl)⟩ ⟨(Nat.le_of_ble_eq_true rfl), (Nat.le_of_ble_eq_true rfl)⟩ dX9_says1_8) (fun hp_3 H locs hH => ?_)
  refine lv_aload_n hM.fx.1 hM.fx.2.1 dX9_says1_11 rfl (lv_at hl 0 rfl) ?_
  refine lv_iload_n hM.fx.1 hM.fx.2.1 dX9_says1_12 rfl (lv_at hl 2 rfl) ?_
  obtain ⟨M_6, eM_6, hf⟩ := gbd hf
  refine r_go0 hH rfl (r_runV (As := [.int (gi x2)]) hM hH cv_X9_273 (mX9_pops hLC hM.ns hg0 hr2 eM_6) (hLC.in hg0 (by decide)) (by decide) rfl rfl rfl hl.1 rfl (Nat.le_of_ble_eq_true rfl) ⟨(Nat.le_of_ble_eq_true rfl), (Nat.le_of_ble_eq_true rfl)⟩ ⟨(Nat.le_of_ble_eq_true rfl), (Nat.le_of_ble_eq_true rfl)⟩ dX9_says1_13) (fun hp_5 H locs hH => ?_)
  obtain rfl := Option.some.inj hf
  exact r_vret hM hH trivial ⟨(Nat.le_of_ble_eq_true rfl), (Nat.le_of_ble_eq_true rfl)⟩ dX9_says1_16
def fX9_asksZero_16 (g : Nat → Nat)  (a0 : Nat) (x2 : Int) (M : gMem) : Option gMem :=
  (fX9_pops g a0 x2 M).bind fun M_2 => some M_2
set_option maxHeartbeats 4000000 in
set_option maxRecDepth 100000 in
theorem wX9_asksZero_16 {w : gW} {n : Nat} {Rm : Nat → Nat → Nat} {g : Nat → Nat} (hLC : gLC g n Rm) {p : Program} {l : Launch} {e : Env} {s : State} {m : MethodId} {args : Array Value} {below : List Frame} {meth : Method} {c : Code} (hM : gMC w p l s m args meth c cX9_asksZero 4 RX9 none)  : ∀ (a0 : Nat) (x2 : Int) (M : gMem) (r : gMem) (hg0 : g a0 = 9) (hr2 : gRI x2) (hf : fX9_asksZero_16 g a0 x2 M = some r) (H : Heap) (locs : List Loc) (ls : Array Slot) (hH : gH w n Rm M s H locs) (hl : lv_has ls 4 [(0, .ref (w.1 + a0)), (2, .int (gi x2))]), W p l e { frames := 3, cells := 0, slots := 0, locals := 104 } s m args below meth c H locs 0 0 (gQ w n Rm below args s 0 0 (.inr none) r True) (F0 m 16 ls []) := by
  intro a0 x2 M r hg0 hr2 hf H locs ls hH hl
  unfold fX9_asksZero_16 at hf
  refine lv_aload_n hM.fx.1 hM.fx.2.1 dX9_asksZero_16 rfl (lv_at hl 0 rfl) ?_
  refine lv_iload_n hM.fx.1 hM.fx.2.1 dX9_asksZero_17 rfl (lv_at hl 1 rfl) ?_
  obtain ⟨M_2, eM_2, hf⟩ := gbd hf
  refine r_go0 hH rfl (r_runV (As := [.int (gi x2)]) hM hH cv_X9_273 (mX9_pops hLC hM.ns hg0 hr2 eM_2) (hLC.in hg0 (by decide)) (by decide) rfl rfl rfl hl.1 rfl (Nat.le_of_ble_eq_true rfl) ⟨(Nat.le_of_ble_eq_true rfl), (Nat.le_of_ble_eq_true rfl)⟩ ⟨(Nat.le_of_ble_eq_true rfl), (Nat.le_of_ble_eq_true rfl)⟩ dX9_asksZero_18) (fun hp_1 H locs hH => ?_)
  obtain rfl := Option.some.inj hf
  exact r_vret hM hH trivial ⟨(Nat.le_of_ble_eq_true rfl), (Nat.le_of_ble_eq_true rfl)⟩ dX9_asksZero_21
def fX9_asksZero (g : Nat → Nat) (a0 : Nat) (x1 : Int) (x2 : Int) (x3 : Int) (M : gMem) : Option gMem :=
  (fX9_numberOf g a0 x2 0 M).bind fun x_2 => if x_2 = 0 then ((fX9_sets g a0 x1 2 x3 M).bind fun M_5 => fX9_asksZero_16 g a0 x2 M_5) else (fX9_asksZero_16 g a0 x2 M)
set_option maxHeartbeats 4000000 in
set_option maxRecDepth 100000 in
theorem mX9_asksZero {w : gW} {n : Nat} {Rm : Nat → Nat → Nat} {g : Nat → Nat} (hLC : gLC g n Rm) {l : Launch} (hl9 : l.stackTraces = false) {a0 : Nat} {x1 : Int} {x2 : Int} {x3 : Int} {M : gMem} {r : gMem} (hg0 : g a0 = 9) (hr1 : gRI x1) (hr2 : gRI x2) (hr3 : gRI x3) (hf : fX9_asksZero g a0 x1 x2 x3 M = some r) : gMT w n Rm l yX9_asksZero cX9_asksZero 4 none 3 104 0 0 [.ref (w.1 + a0), .int (gi x1), .int (gi x2), .int (gi x3)] M (.inr none) r True := by
  unfold fX9_asksZero at hf
  refine gMT.of hl9 (by decide +kernel) ((Nat.le_of_ble_eq_true rfl)) ?_
  intro p e s m below meth c hM hH ls hl
  have hM : gMC w p l s m ([.ref (w.1 + a0), .int (gi x1), .int (gi x2), .int (gi x3)] : List Value).toArray meth c cX9_asksZero 4 RX9 none := hM
  have hl : lv_has ls 4 [(0, .ref (w.1 + a0)), (1, .int (gi x1)), (2, .int (gi x2)), (3, .int (gi x3))] := hl
  refine lv_aload_n hM.fx.1 hM.fx.2.1 dX9_asksZero_0 rfl (lv_at hl 0 rfl) ?_
  refine lv_iload_n hM.fx.1 hM.fx.2.1 dX9_asksZero_1 rfl (lv_at hl 2 rfl) ?_
  refine lv_iconst (v := gi (0)) hM.fx.1 hM.fx.2.1 dX9_asksZero_2 rfl ?_
  obtain ⟨x_2, ex_2, hf⟩ := gbd hf
  refine r_go1 hH rfl (r_runV (As := [.int (gi x2), .int (gi 0)]) hM hH cv_X9_235 (mX9_numberOf hLC hM.ns hg0 hr2 (gcR (k := 0) (by decide)) ex_2) (hLC.in hg0 (by decide)) (by decide) rfl rfl rfl hl.1 rfl (Nat.le_of_ble_eq_true rfl) ⟨(Nat.le_of_ble_eq_true rfl), (Nat.le_of_ble_eq_true rfl)⟩ ⟨(Nat.le_of_ble_eq_true rfl), (Nat.le_of_ble_eq_true rfl)⟩ dX9_asksZero_3) (fun hp_1 H locs hH => ?_)
  refine r_if_ne (tgt := 16) hM.fx hp_1 dX9_asksZero_6 (by decide) (fun h_3 => ?_) (fun h_3 => ?_)
  · have hf := gneg' h_3 hf
    exact wX9_asksZero_16 hLC hM   _ _ _ _ hg0 hr2 hf _ _ _ hH (lv_sub hl [0, 2] rfl)
  · have hf := gpos h_3 hf
    refine lv_aload_n hM.fx.1 hM.fx.2.1 dX9_asksZero_9 rfl (lv_at hl 0 rfl) ?_
    refine lv_iload_n hM.fx.1 hM.fx.2.1 dX9_asksZero_10 rfl (lv_at hl 1 rfl) ?_
    refine lv_iconst (v := gi (2)) hM.fx.1 hM.fx.2.1 dX9_asksZero_11 rfl ?_
    refine lv_iload_n hM.fx.1 hM.fx.2.1 dX9_asksZero_12 rfl (lv_at hl 3 rfl) ?_
    obtain ⟨M_5, eM_5, hf⟩ := gbd hf
    refine r_go0 hH rfl (r_runV (As := [.int (gi x1), .int (gi 2), .int (gi x3)]) hM hH cv_X9_42 (mX9_sets hLC hM.ns hg0 hr1 (gcR (k := 2) (by decide)) hr3 eM_5) (hLC.in hg0 (by decide)) (by decide) rfl rfl rfl hl.1 rfl (Nat.le_of_ble_eq_true rfl) ⟨(Nat.le_of_ble_eq_true rfl), (Nat.le_of_ble_eq_true rfl)⟩ ⟨(Nat.le_of_ble_eq_true rfl), (Nat.le_of_ble_eq_true rfl)⟩ dX9_asksZero_13) (fun hp_4 H locs hH => ?_)
    exact wX9_asksZero_16 hLC hM   _ _ _ _ hg0 hr2 hf _ _ _ hH (lv_sub hl [0, 2] rfl)
def fX9_does_120 (g : Nat → Nat)  (a0 : Nat) (x2 : Int) (x4 : Int) (M : gMem) : Option gMem :=
  (fX9_reckons g a0 x4 x2 M).bind fun M_2 => some M_2
set_option maxHeartbeats 4000000 in
set_option maxRecDepth 100000 in
theorem wX9_does_120 {w : gW} {n : Nat} {Rm : Nat → Nat → Nat} {g : Nat → Nat} (hLC : gLC g n Rm) {p : Program} {l : Launch} {e : Env} {s : State} {m : MethodId} {args : Array Value} {below : List Frame} {meth : Method} {c : Code} (hM : gMC w p l s m args meth c cX9_does 5 RX9 none)  : ∀ (a0 : Nat) (x2 : Int) (x4 : Int) (M : gMem) (r : gMem) (hg0 : g a0 = 9) (hr2 : gRI x2) (hr4 : gRI x4) (hf : fX9_does_120 g a0 x2 x4 M = some r) (H : Heap) (locs : List Loc) (ls : Array Slot) (hH : gH w n Rm M s H locs) (hl : lv_has ls 5 [(0, .ref (w.1 + a0)), (2, .int (gi x2)), (4, .int (gi x4))]), W p l e { frames := 5, cells := 0, slots := 0, locals := 153 } s m args below meth c H locs 0 0 (gQ w n Rm below args s 0 0 (.inr none) r True) (F0 m 120 ls []) := by
  intro a0 x2 x4 M r hg0 hr2 hr4 hf H locs ls hH hl
  unfold fX9_does_120 at hf
  refine lv_aload_n hM.fx.1 hM.fx.2.1 dX9_does_120 rfl (lv_at hl 0 rfl) ?_
  refine lv_iload hM.fx.1 hM.fx.2.1 dX9_does_121 (lv_at hl 2 rfl) ?_
  refine lv_iload_n hM.fx.1 hM.fx.2.1 dX9_does_123 rfl (lv_at hl 1 rfl) ?_
  obtain ⟨M_2, eM_2, hf⟩ := gbd hf
  refine r_go0 hH rfl (r_runV (As := [.int (gi x4), .int (gi x2)]) hM hH cv_X9_279 (mX9_reckons hLC hM.ns hg0 hr4 hr2 eM_2) (hLC.in hg0 (by decide)) (by decide) rfl rfl rfl hl.1 rfl (Nat.le_of_ble_eq_true rfl) ⟨(Nat.le_of_ble_eq_true rfl), (Nat.le_of_ble_eq_true rfl)⟩ ⟨(Nat.le_of_ble_eq_true rfl), (Nat.le_of_ble_eq_true rfl)⟩ dX9_does_124) (fun hp_1 H locs hH => ?_)
  refine lv_goto (tgt := 193) hM.fx.1 hM.fx.2.1 dX9_does_127 (by decide) ?_
  obtain rfl := Option.some.inj hf
  exact r_vret hM hH trivial ⟨(Nat.le_of_ble_eq_true rfl), (Nat.le_of_ble_eq_true rfl)⟩ dX9_does_193
def fX9_does_140 (g : Nat → Nat)  (a0 : Nat) (x1 : Int) (x3 : Int) (x4 : Int) (M : gMem) : Option gMem :=
  (fX9_exchanges g a0 x1 x4 x3 M).bind fun M_2 => some M_2
set_option maxHeartbeats 4000000 in
set_option maxRecDepth 100000 in
theorem wX9_does_140 {w : gW} {n : Nat} {Rm : Nat → Nat → Nat} {g : Nat → Nat} (hLC : gLC g n Rm) {p : Program} {l : Launch} {e : Env} {s : State} {m : MethodId} {args : Array Value} {below : List Frame} {meth : Method} {c : Code} (hM : gMC w p l s m args meth c cX9_does 5 RX9 none)  : ∀ (a0 : Nat) (x1 : Int) (x3 : Int) (x4 : Int) (M : gMem) (r : gMem) (hg0 : g a0 = 9) (hr1 : gRI x1) (hr3 : gRI x3) (hr4 : gRI x4) (hf : fX9_does_140 g a0 x1 x3 x4 M = some r) (H : Heap) (locs : List Loc) (ls : Array Slot) (hH : gH w n Rm M s H locs) (hl : lv_has ls 5 [(0, .ref (w.1 + a0)), (1, .int (gi x1)), (3, .int (gi x3)), (4, .int (gi x4))]), W p l e { frames := 5, cells := 0, slots := 0, locals := 153 } s m args below meth c H locs 0 0 (gQ w n Rm below args s 0 0 (.inr none) r True) (F0 m 140 ls []) := by
  intro a0 x1 x3 x4 M r hg0 hr1 hr3 hr4 hf H locs ls hH hl
  unfold fX9_does_140 at hf
  refine lv_aload_n hM.fx.1 hM.fx.2.1 dX9_does_140 rfl (lv_at hl 0 rfl) ?_
  refine lv_iload_n hM.fx.1 hM.fx.2.1 dX9_does_141 rfl (lv_at hl 1 rfl) ?_
  refine lv_iload hM.fx.1 hM.fx.2.1 dX9_does_142 (lv_at hl 3 rfl) ?_
  refine lv_iload_n hM.fx.1 hM.fx.2.1 dX9_does_144 rfl (lv_at hl 2 rfl) ?_
  obtain ⟨M_2, eM_2, hf⟩ := gbd hf
  refine r_go0 hH rfl (r_runV (As := [.int (gi x1), .int (gi x4), .int (gi x3)]) hM hH cv_X9_285 (mX9_exchanges hLC hM.ns hg0 hr1 hr4 hr3 eM_2) (hLC.in hg0 (by decide)) (by decide) rfl rfl rfl hl.1 rfl (Nat.le_of_ble_eq_true rfl) ⟨(Nat.le_of_ble_eq_true rfl), (Nat.le_of_ble_eq_true rfl)⟩ ⟨(Nat.le_of_ble_eq_true rfl), (Nat.le_of_ble_eq_true rfl)⟩ dX9_does_145) (fun hp_1 H locs hH => ?_)
  refine lv_goto (tgt := 193) hM.fx.1 hM.fx.2.1 dX9_does_148 (by decide) ?_
  obtain rfl := Option.some.inj hf
  exact r_vret hM hH trivial ⟨(Nat.le_of_ble_eq_true rfl), (Nat.le_of_ble_eq_true rfl)⟩ dX9_does_193
def fX9_does (g : Nat → Nat) (a0 : Nat) (x1 : Int) (x2 : Int) (x3 : Int) (M : gMem) : Option gMem :=
  (fX9_inHand g a0 x1 M).bind fun x_2 => if x2 = 0 then ((fX9_pushes g a0 x_2 x3 M).bind fun M_5 => some M_5) else (if x2 = 1 then ((fX9_pops g a0 x_2 M).bind fun M_8 => some M_8) else (if x2 = 2 then ((fX9_numberOf g a0 x_2 0 M).bind fun x_11 => (fX9_pushes g a0 x_2 x_11 M).bind fun M_13 => some M_13) else (if x2 = 3 then ((fX9_flips g a0 x_2 M).bind fun M_16 => some M_16) else (if x2 = 4 then (fX9_does_120 g a0 x2 x_2 M) else (if x2 = 5 then (fX9_does_120 g a0 x2 x_2 M) else (if x2 = 6 then (fX9_does_120 g a0 x2 x_2 M) else (if x2 = 7 then ((fX9_says1 g a0 x1 x_2 M).bind fun M_22 => some M_22) else (if x2 = 8 then (fX9_does_140 g a0 x1 x3 x_2 M) else (if x2 = 9 then (fX9_does_140 g a0 x1 x3 x_2 M) else (if x2 = 10 then (fX9_does_140 g a0 x1 x3 x_2 M) else (if x2 = 11 then ((fX9_sets g a0 x1 2 x3 M).bind fun M_28 => some M_28) else (if x2 = 12 then ((fX9_asksZero g a0 x1 x_2 x3 M).bind fun M_31 => some M_31) else ((fX9_sets g a0 x1 0 1 M).bind fun M_33 => (fX9_of g a0 x1 2 M_33).bind fun x_35 => (fX9_sets g a0 x1 2 (gwi (x_35 - 1)) M_33).bind fun M_37 => some M_37)))))))))))))
set_option maxHeartbeats 4000000 in
set_option maxRecDepth 100000 in
theorem mX9_does {w : gW} {n : Nat} {Rm : Nat → Nat → Nat} {g : Nat → Nat} (hLC : gLC g n Rm) {l : Launch} (hl9 : l.stackTraces = false) {a0 : Nat} {x1 : Int} {x2 : Int} {x3 : Int} {M : gMem} {r : gMem} (hg0 : g a0 = 9) (hr1 : gRI x1) (hr2 : gRI x2) (hr3 : gRI x3) (hf : fX9_does g a0 x1 x2 x3 M = some r) : gMT w n Rm l yX9_does cX9_does 5 none 5 153 0 0 [.ref (w.1 + a0), .int (gi x1), .int (gi x2), .int (gi x3)] M (.inr none) r True := by
  unfold fX9_does at hf
  refine gMT.of hl9 (by decide +kernel) ((Nat.le_of_ble_eq_true rfl)) ?_
  intro p e s m below meth c hM hH ls hl
  have hM : gMC w p l s m ([.ref (w.1 + a0), .int (gi x1), .int (gi x2), .int (gi x3)] : List Value).toArray meth c cX9_does 5 RX9 none := hM
  have hl : lv_has ls 5 [(0, .ref (w.1 + a0)), (1, .int (gi x1)), (2, .int (gi x2)), (3, .int (gi x3))] := hl
  refine lv_aload_n hM.fx.1 hM.fx.2.1 dX9_does_0 rfl (lv_at hl 0 rfl) ?_
  refine lv_iload_n hM.fx.1 hM.fx.2.1 dX9_does_1 rfl (lv_at hl 1 rfl) ?_
  obtain ⟨x_2, ex_2, hf⟩ := gbd hf
  refine r_go1 hH rfl (r_runV (As := [.int (gi x1)]) hM hH cv_X9_212 (mX9_inHand hLC hM.ns hg0 hr1 ex_2) (hLC.in hg0 (by decide)) (by decide) rfl rfl rfl hl.1 rfl (Nat.le_of_ble_eq_true rfl) ⟨(Nat.le_of_ble_eq_true rfl), (Nat.le_of_ble_eq_true rfl)⟩ ⟨(Nat.le_of_ble_eq_true rfl), (Nat.le_of_ble_eq_true rfl)⟩ dX9_does_2) (fun hp_1 H locs hH => ?_)
  refine lv_istore (lv' := [(4, .int (gi x_2)), (0, .ref (w.1 + a0)), (1, .int (gi x1)), (2, .int (gi x2)), (3, .int (gi x3))]) hM.fx.1 hM.fx.2.1 dX9_does_5 hl (by decide) rfl (fun ls hl => ?_)
  refine lv_iload_n hM.fx.1 hM.fx.2.1 dX9_does_7 rfl (lv_at hl 3 rfl) ?_
  by_cases h_3 : x2 = 0
  · refine r_tsIn (tgt := 76) hM.fx hr2 0 dX9_does_8 h_3 (by decide) rfl (by decide) ?_
    have hf := gpos h_3 hf
    refine lv_aload_n hM.fx.1 hM.fx.2.1 dX9_does_76 rfl (lv_at hl 1 rfl) ?_
    refine lv_iload hM.fx.1 hM.fx.2.1 dX9_does_77 (lv_at hl 0 rfl) ?_
    refine lv_iload_n hM.fx.1 hM.fx.2.1 dX9_does_79 rfl (lv_at hl 4 rfl) ?_
    obtain ⟨M_5, eM_5, hf⟩ := gbd hf
    refine r_go0 hH rfl (r_runV (As := [.int (gi x_2), .int (gi x3)]) hM hH cv_X9_270 (mX9_pushes hLC hM.ns hg0 hp_1 hr3 eM_5) (hLC.in hg0 (by decide)) (by decide) rfl rfl rfl hl.1 rfl (Nat.le_of_ble_eq_true rfl) ⟨(Nat.le_of_ble_eq_true rfl), (Nat.le_of_ble_eq_true rfl)⟩ ⟨(Nat.le_of_ble_eq_true rfl), (Nat.le_of_ble_eq_true rfl)⟩ dX9_does_80) (fun hp_4 H locs hH => ?_)
    refine lv_goto (tgt := 193) hM.fx.1 hM.fx.2.1 dX9_does_83 (by decide) ?_
    obtain rfl := Option.some.inj hf
    exact r_vret hM hH trivial ⟨(Nat.le_of_ble_eq_true rfl), (Nat.le_of_ble_eq_true rfl)⟩ dX9_does_193
  · have hf := gneg' h_3 hf
    by_cases h_6 : x2 = 1
    · refine r_tsIn (tgt := 86) hM.fx hr2 1 dX9_does_8 h_6 (by decide) rfl (by decide) ?_
      have hf := gpos h_6 hf
      refine lv_aload_n hM.fx.1 hM.fx.2.1 dX9_does_86 rfl (lv_at hl 1 rfl) ?_
      refine lv_iload hM.fx.1 hM.fx.2.1 dX9_does_87 (lv_at hl 0 rfl) ?_
      obtain ⟨M_8, eM_8, hf⟩ := gbd hf
      refine r_go0 hH rfl (r_runV (As := [.int (gi x_2)]) hM hH cv_X9_273 (mX9_pops hLC hM.ns hg0 hp_1 eM_8) (hLC.in hg0 (by decide)) (by decide) rfl rfl rfl hl.1 rfl (Nat.le_of_ble_eq_true rfl) ⟨(Nat.le_of_ble_eq_true rfl), (Nat.le_of_ble_eq_true rfl)⟩ ⟨(Nat.le_of_ble_eq_true rfl), (Nat.le_of_ble_eq_true rfl)⟩ dX9_does_89) (fun hp_7 H locs hH => ?_)
      refine lv_goto (tgt := 193) hM.fx.1 hM.fx.2.1 dX9_does_92 (by decide) ?_
      obtain rfl := Option.some.inj hf
      exact r_vret hM hH trivial ⟨(Nat.le_of_ble_eq_true rfl), (Nat.le_of_ble_eq_true rfl)⟩ dX9_does_193
    · have hf := gneg' h_6 hf
      by_cases h_9 : x2 = 2
      · refine r_tsIn (tgt := 95) hM.fx hr2 2 dX9_does_8 h_9 (by decide) rfl (by decide) ?_
        have hf := gpos h_9 hf
        refine lv_aload_n hM.fx.1 hM.fx.2.1 dX9_does_95 rfl (lv_at hl 1 rfl) ?_
        refine lv_iload hM.fx.1 hM.fx.2.1 dX9_does_96 (lv_at hl 0 rfl) ?_
        refine lv_aload_n hM.fx.1 hM.fx.2.1 dX9_does_98 rfl (lv_at hl 1 rfl) ?_
        refine lv_iload hM.fx.1 hM.fx.2.1 dX9_does_99 (lv_at hl 0 rfl) ?_
        refine lv_iconst (v := gi (0)) hM.fx.1 hM.fx.2.1 dX9_does_101 rfl ?_
        obtain ⟨x_11, ex_11, hf⟩ := gbd hf
        refine r_go1 hH rfl (r_runV (As := [.int (gi x_2), .int (gi 0)]) hM hH cv_X9_235 (mX9_numberOf hLC hM.ns hg0 hp_1 (gcR (k := 0) (by decide)) ex_11) (hLC.in hg0 (by decide)) (by decide) rfl rfl rfl hl.1 rfl (Nat.le_of_ble_eq_true rfl) ⟨(Nat.le_of_ble_eq_true rfl), (Nat.le_of_ble_eq_true rfl)⟩ ⟨(Nat.le_of_ble_eq_true rfl), (Nat.le_of_ble_eq_true rfl)⟩ dX9_does_102) (fun hp_10 H locs hH => ?_)
        obtain ⟨M_13, eM_13, hf⟩ := gbd hf
        refine r_go0 hH rfl (r_runV (As := [.int (gi x_2), .int (gi x_11)]) hM hH cv_X9_270 (mX9_pushes hLC hM.ns hg0 hp_1 hp_10 eM_13) (hLC.in hg0 (by decide)) (by decide) rfl rfl rfl hl.1 rfl (Nat.le_of_ble_eq_true rfl) ⟨(Nat.le_of_ble_eq_true rfl), (Nat.le_of_ble_eq_true rfl)⟩ ⟨(Nat.le_of_ble_eq_true rfl), (Nat.le_of_ble_eq_true rfl)⟩ dX9_does_105) (fun hp_12 H locs hH => ?_)
        refine lv_goto (tgt := 193) hM.fx.1 hM.fx.2.1 dX9_does_108 (by decide) ?_
        obtain rfl := Option.some.inj hf
        exact r_vret hM hH trivial ⟨(Nat.le_of_ble_eq_true rfl), (Nat.le_of_ble_eq_true rfl)⟩ dX9_does_193
      · have hf := gneg' h_9 hf
        by_cases h_14 : x2 = 3
        · refine r_tsIn (tgt := 111) hM.fx hr2 3 dX9_does_8 h_14 (by decide) rfl (by decide) ?_
          have hf := gpos h_14 hf
          refine lv_aload_n hM.fx.1 hM.fx.2.1 dX9_does_111 rfl (lv_at hl 1 rfl) ?_
          refine lv_iload hM.fx.1 hM.fx.2.1 dX9_does_112 (lv_at hl 0 rfl) ?_
          obtain ⟨M_16, eM_16, hf⟩ := gbd hf
          refine r_go0 hH rfl (r_runV (As := [.int (gi x_2)]) hM hH cv_X9_276 (mX9_flips hLC hM.ns hg0 hp_1 eM_16) (hLC.in hg0 (by decide)) (by decide) rfl rfl rfl hl.1 rfl (Nat.le_of_ble_eq_true rfl) ⟨(Nat.le_of_ble_eq_true rfl), (Nat.le_of_ble_eq_true rfl)⟩ ⟨(Nat.le_of_ble_eq_true rfl), (Nat.le_of_ble_eq_true rfl)⟩ dX9_does_114) (fun hp_15 H locs hH => ?_)
          refine lv_goto (tgt := 193) hM.fx.1 hM.fx.2.1 dX9_does_117 (by decide) ?_
          obtain rfl := Option.some.inj hf
          exact r_vret hM hH trivial ⟨(Nat.le_of_ble_eq_true rfl), (Nat.le_of_ble_eq_true rfl)⟩ dX9_does_193
        · have hf := gneg' h_14 hf
          by_cases h_17 : x2 = 4
          · refine r_tsIn (tgt := 120) hM.fx hr2 4 dX9_does_8 h_17 (by decide) rfl (by decide) ?_
            have hf := gpos h_17 hf
            exact wX9_does_120 hLC hM   _ _ _ _ _ hg0 hr2 hp_1 hf _ _ _ hH (lv_sub hl [1, 3, 0] rfl)
          · have hf := gneg' h_17 hf
            by_cases h_18 : x2 = 5
            · refine r_tsIn (tgt := 120) hM.fx hr2 5 dX9_does_8 h_18 (by decide) rfl (by decide) ?_
              have hf := gpos h_18 hf
              exact wX9_does_120 hLC hM   _ _ _ _ _ hg0 hr2 hp_1 hf _ _ _ hH (lv_sub hl [1, 3, 0] rfl)
            · have hf := gneg' h_18 hf
              by_cases h_19 : x2 = 6
              · refine r_tsIn (tgt := 120) hM.fx hr2 6 dX9_does_8 h_19 (by decide) rfl (by decide) ?_
                have hf := gpos h_19 hf
                exact wX9_does_120 hLC hM   _ _ _ _ _ hg0 hr2 hp_1 hf _ _ _ hH (lv_sub hl [1, 3, 0] rfl)
              · have hf := gneg' h_19 hf
                by_cases h_20 : x2 = 7
                · refine r_tsIn (tgt := 130) hM.fx hr2 7 dX9_does_8 h_20 (by decide) rfl (by decide) ?_
                  have hf := gpos h_20 hf
                  refine lv_aload_n hM.fx.1 hM.fx.2.1 dX9_does_130 rfl (lv_at hl 1 rfl) ?_
                  refine lv_iload_n hM.fx.1 hM.fx.2.1 dX9_does_131 rfl (lv_at hl 2 rfl) ?_
                  refine lv_iload hM.fx.1 hM.fx.2.1 dX9_does_132 (lv_at hl 0 rfl) ?_
                  obtain ⟨M_22, eM_22, hf⟩ := gbd hf
                  refine r_go0 hH rfl (r_runV (As := [.int (gi x1), .int (gi x_2)]) hM hH cv_X9_282 (mX9_says1 hLC hM.ns hg0 hr1 hp_1 eM_22) (hLC.in hg0 (by decide)) (by decide) rfl rfl rfl hl.1 rfl (Nat.le_of_ble_eq_true rfl) ⟨(Nat.le_of_ble_eq_true rfl), (Nat.le_of_ble_eq_true rfl)⟩ ⟨(Nat.le_of_ble_eq_true rfl), (Nat.le_of_ble_eq_true rfl)⟩ dX9_does_134) (fun hp_21 H locs hH => ?_)
                  refine lv_goto (tgt := 193) hM.fx.1 hM.fx.2.1 dX9_does_137 (by decide) ?_
                  obtain rfl := Option.some.inj hf
                  exact r_vret hM hH trivial ⟨(Nat.le_of_ble_eq_true rfl), (Nat.le_of_ble_eq_true rfl)⟩ dX9_does_193
                · have hf := gneg' h_20 hf
                  by_cases h_23 : x2 = 8
                  · refine r_tsIn (tgt := 140) hM.fx hr2 8 dX9_does_8 h_23 (by decide) rfl (by decide) ?_
                    have hf := gpos h_23 hf
                    exact wX9_does_140 hLC hM   _ _ _ _ _ _ hg0 hr1 hr3 hp_1 hf _ _ _ hH (lv_sub hl [1, 2, 4, 0] rfl)
                  · have hf := gneg' h_23 hf
                    by_cases h_24 : x2 = 9
                    · refine r_tsIn (tgt := 140) hM.fx hr2 9 dX9_does_8 h_24 (by decide) rfl (by decide) ?_
                      have hf := gpos h_24 hf
                      exact wX9_does_140 hLC hM   _ _ _ _ _ _ hg0 hr1 hr3 hp_1 hf _ _ _ hH (lv_sub hl [1, 2, 4, 0] rfl)
                    · have hf := gneg' h_24 hf
                      by_cases h_25 : x2 = 10
                      · refine r_tsIn (tgt := 140) hM.fx hr2 10 dX9_does_8 h_25 (by decide) rfl (by decide) ?_
                        have hf := gpos h_25 hf
                        exact wX9_does_140 hLC hM   _ _ _ _ _ _ hg0 hr1 hr3 hp_1 hf _ _ _ hH (lv_sub hl [1, 2, 4, 0] rfl)
                      · have hf := gneg' h_25 hf
                        by_cases h_26 : x2 = 11
                        · refine r_tsIn (tgt := 151) hM.fx hr2 11 dX9_does_8 h_26 (by decide) rfl (by decide) ?_
                          have hf := gpos h_26 hf
                          refine lv_aload_n hM.fx.1 hM.fx.2.1 dX9_does_151 rfl (lv_at hl 1 rfl) ?_
                          refine lv_iload_n hM.fx.1 hM.fx.2.1 dX9_does_152 rfl (lv_at hl 2 rfl) ?_
                          refine lv_iconst (v := gi (2)) hM.fx.1 hM.fx.2.1 dX9_does_153 rfl ?_
                          refine lv_iload_n hM.fx.1 hM.fx.2.1 dX9_does_154 rfl (lv_at hl 4 rfl) ?_
                          obtain ⟨M_28, eM_28, hf⟩ := gbd hf
                          refine r_go0 hH rfl (r_runV (As := [.int (gi x1), .int (gi 2), .int (gi x3)]) hM hH cv_X9_42 (mX9_sets hLC hM.ns hg0 hr1 (gcR (k := 2) (by decide)) hr3 eM_28) (hLC.in hg0 (by decide)) (by decide) rfl rfl rfl hl.1 rfl (Nat.le_of_ble_eq_true rfl) ⟨(Nat.le_of_ble_eq_true rfl), (Nat.le_of_ble_eq_true rfl)⟩ ⟨(Nat.le_of_ble_eq_true rfl), (Nat.le_of_ble_eq_true rfl)⟩ dX9_does_155) (fun hp_27 H locs hH => ?_)
                          refine lv_goto (tgt := 193) hM.fx.1 hM.fx.2.1 dX9_does_158 (by decide) ?_
                          obtain rfl := Option.some.inj hf
                          exact r_vret hM hH trivial ⟨(Nat.le_of_ble_eq_true rfl), (Nat.le_of_ble_eq_true rfl)⟩ dX9_does_193
                        · have hf := gneg' h_26 hf
                          by_cases h_29 : x2 = 12
                          · refine r_tsIn (tgt := 161) hM.fx hr2 12 dX9_does_8 h_29 (by decide) rfl (by decide) ?_
                            have hf := gpos h_29 hf
                            refine lv_aload_n hM.fx.1 hM.fx.2.1 dX9_does_161 rfl (lv_at hl 1 rfl) ?_
                            refine lv_iload_n hM.fx.1 hM.fx.2.1 dX9_does_162 rfl (lv_at hl 2 rfl) ?_
                            refine lv_iload hM.fx.1 hM.fx.2.1 dX9_does_163 (lv_at hl 0 rfl) ?_
                            refine lv_iload_n hM.fx.1 hM.fx.2.1 dX9_does_165 rfl (lv_at hl 4 rfl) ?_
                            obtain ⟨M_31, eM_31, hf⟩ := gbd hf
                            refine r_go0 hH rfl (r_runV (As := [.int (gi x1), .int (gi x_2), .int (gi x3)]) hM hH cv_X9_288 (mX9_asksZero hLC hM.ns hg0 hr1 hp_1 hr3 eM_31) (hLC.in hg0 (by decide)) (by decide) rfl rfl rfl hl.1 rfl (Nat.le_of_ble_eq_true rfl) ⟨(Nat.le_of_ble_eq_true rfl), (Nat.le_of_ble_eq_true rfl)⟩ ⟨(Nat.le_of_ble_eq_true rfl), (Nat.le_of_ble_eq_true rfl)⟩ dX9_does_166) (fun hp_30 H locs hH => ?_)
                            refine lv_goto (tgt := 193) hM.fx.1 hM.fx.2.1 dX9_does_169 (by decide) ?_
                            obtain rfl := Option.some.inj hf
                            exact r_vret hM hH trivial ⟨(Nat.le_of_ble_eq_true rfl), (Nat.le_of_ble_eq_true rfl)⟩ dX9_does_193
                          · have hf := gneg' h_29 hf
                            refine r_tsOut (tgt := 172) hM.fx hr2 dX9_does_8 (by omega) (by decide) ?_
                            refine lv_aload_n hM.fx.1 hM.fx.2.1 dX9_does_172 rfl (lv_at hl 1 rfl) ?_
                            refine lv_iload_n hM.fx.1 hM.fx.2.1 dX9_does_173 rfl (lv_at hl 2 rfl) ?_
                            refine lv_iconst (v := gi (0)) hM.fx.1 hM.fx.2.1 dX9_does_174 rfl ?_
                            refine lv_iconst (v := gi (1)) hM.fx.1 hM.fx.2.1 dX9_does_175 rfl ?_
                            obtain ⟨M_33, eM_33, hf⟩ := gbd hf
                            refine r_go0 hH rfl (r_runV (As := [.int (gi x1), .int (gi 0), .int (gi 1)]) hM hH cv_X9_42 (mX9_sets hLC hM.ns hg0 hr1 (gcR (k := 0) (by decide)) (gcR (k := 1) (by decide)) eM_33) (hLC.in hg0 (by decide)) (by decide) rfl rfl rfl hl.1 rfl (Nat.le_of_ble_eq_true rfl) ⟨(Nat.le_of_ble_eq_true rfl), (Nat.le_of_ble_eq_true rfl)⟩ ⟨(Nat.le_of_ble_eq_true rfl), (Nat.le_of_ble_eq_true rfl)⟩ dX9_does_176) (fun hp_32 H locs hH => ?_)
                            refine lv_aload_n hM.fx.1 hM.fx.2.1 dX9_does_179 rfl (lv_at hl 1 rfl) ?_
                            refine lv_iload_n hM.fx.1 hM.fx.2.1 dX9_does_180 rfl (lv_at hl 2 rfl) ?_
                            refine lv_iconst (v := gi (2)) hM.fx.1 hM.fx.2.1 dX9_does_181 rfl ?_
                            refine lv_aload_n hM.fx.1 hM.fx.2.1 dX9_does_182 rfl (lv_at hl 1 rfl) ?_
                            refine lv_iload_n hM.fx.1 hM.fx.2.1 dX9_does_183 rfl (lv_at hl 2 rfl) ?_
                            refine lv_iconst (v := gi (2)) hM.fx.1 hM.fx.2.1 dX9_does_184 rfl ?_
                            obtain ⟨x_35, ex_35, hf⟩ := gbd hf
                            refine r_go1 hH rfl (r_runV (As := [.int (gi x1), .int (gi 2)]) hM hH cv_X9_135 (mX9_of hLC hM.ns hg0 hr1 (gcR (k := 2) (by decide)) ex_35) (hLC.in hg0 (by decide)) (by decide) rfl rfl rfl hl.1 rfl (Nat.le_of_ble_eq_true rfl) ⟨(Nat.le_of_ble_eq_true rfl), (Nat.le_of_ble_eq_true rfl)⟩ ⟨(Nat.le_of_ble_eq_true rfl), (Nat.le_of_ble_eq_true rfl)⟩ dX9_does_185) (fun hp_34 H locs hH => ?_)
                            refine lv_iconst (v := gi (1)) hM.fx.1 hM.fx.2.1 dX9_does_188 rfl ?_
                            refine r_isub hM.fx dX9_does_189 ?_
                            obtain ⟨M_37, eM_37, hf⟩ := gbd hf
                            refine r_go0 hH rfl (r_runV (As := [.int (gi x1), .int (gi 2), .int (gi (gwi (x_35 - 1)))]) hM hH cv_X9_42 (mX9_sets hLC hM.ns hg0 hr1 (gcR (k := 2) (by decide)) (gwi_r _) eM_37) (hLC.in hg0 (by decide)) (by decide) rfl rfl rfl hl.1 rfl (Nat.le_of_ble_eq_true rfl) ⟨(Nat.le_of_ble_eq_true rfl), (Nat.le_of_ble_eq_true rfl)⟩ ⟨(Nat.le_of_ble_eq_true rfl), (Nat.le_of_ble_eq_true rfl)⟩ dX9_does_190) (fun hp_36 H locs hH => ?_)
                            obtain rfl := Option.some.inj hf
                            exact r_vret hM hH trivial ⟨(Nat.le_of_ble_eq_true rfl), (Nat.le_of_ble_eq_true rfl)⟩ dX9_does_193
def fX9_traces_56 (g : Nat → Nat)  (a0 : Nat) (x1 : Int) (x2 : Int) (x3 : Int) (M : gMem) : Option gMem :=
  if (0 : Int) ≤ 5 ∧ (5 : Int) < 1190 then gst (gwi (1030 + gwi (4 * M (a0 + 1) (5 : Int).toNat))) fun x_3 => if (0 : Int) ≤ 3 ∧ (3 : Int) < 1190 then if (0 : Int) ≤ x_3 ∧ (x_3 : Int) < 1190 then gst (gup M (a0 + 1) x_3.toNat (M (a0 + 1) (3 : Int).toNat)) fun M_7 => if (0 : Int) ≤ gwi (x_3 + 1) ∧ (gwi (x_3 + 1) : Int) < 1190 then gst (gup M_7 (a0 + 1) (gwi (x_3 + 1)).toNat x1) fun M_9 => if (0 : Int) ≤ gwi (x_3 + 2) ∧ (gwi (x_3 + 2) : Int) < 1190 then gst (gup M_9 (a0 + 1) (gwi (x_3 + 2)).toNat x2) fun M_11 => if (0 : Int) ≤ gwi (x_3 + 3) ∧ (gwi (x_3 + 3) : Int) < 1190 then gst (gup M_11 (a0 + 1) (gwi (x_3 + 3)).toNat x3) fun M_13 => if (0 : Int) ≤ 5 ∧ (5 : Int) < 1190 then if (0 : Int) ≤ 5 ∧ (5 : Int) < 1190 then gst (gup M_13 (a0 + 1) (5 : Int).toNat (gwi (M_13 (a0 + 1) (5 : Int).toNat + 1))) fun M_17 => some M_17 else none else none else none else none else none else none else none else none
set_option maxHeartbeats 4000000 in
set_option maxRecDepth 100000 in
theorem wX9_traces_56 {w : gW} {n : Nat} {Rm : Nat → Nat → Nat} {g : Nat → Nat} (hLC : gLC g n Rm) {p : Program} {l : Launch} {e : Env} {s : State} {m : MethodId} {args : Array Value} {below : List Frame} {meth : Method} {c : Code} (hM : gMC w p l s m args meth c cX9_traces 5 RX9 none)  : ∀ (a0 : Nat) (x1 : Int) (x2 : Int) (x3 : Int) (M : gMem) (r : gMem) (hg0 : g a0 = 9) (hr1 : gRI x1) (hr2 : gRI x2) (hr3 : gRI x3) (hf : fX9_traces_56 g a0 x1 x2 x3 M = some r) (H : Heap) (locs : List Loc) (ls : Array Slot) (hH : gH w n Rm M s H locs) (hl : lv_has ls 5 [(0, .ref (w.1 + a0)), (1, .int (gi x1)), (2, .int (gi x2)), (3, .int (gi x3))]), W p l e { frames := 1, cells := 0, slots := 0, locals := 60 } s m args below meth c H locs 0 0 (gQ w n Rm below args s 0 0 (.inr none) r True) (F0 m 56 ls []) := by
  intro a0 x1 x2 x3 M r hg0 hr1 hr2 hr3 hf H locs ls hH hl
  unfold fX9_traces_56 at hf
  refine lv_sipush (v := gi (1030)) hM.fx.1 hM.fx.2.1 dX9_traces_56 (by decide) ?_
  refine lv_iconst (v := gi (4)) hM.fx.1 hM.fx.2.1 dX9_traces_59 rfl ?_
  refine lv_aload_n hM.fx.1 hM.fx.2.1 dX9_traces_60 rfl (lv_at hl 0 rfl) ?_
  refine r_getR hM.fx hM.kf hH hLC fl_X9_7 hg0 gch_9_0 dX9_traces_61 ?_
  refine lv_iconst (v := gi (5)) hM.fx.1 hM.fx.2.1 dX9_traces_64 rfl ?_
  obtain ⟨g_1, hf⟩ := gif hf
  refine r_iald hM.fx hM.kf hH (hLC.in (hLC.ch hg0 (by decide) gch_9_0) (by decide)) (⟨by decide, by decide⟩ : gAr 19056 0) (gcR (k := 5) (by decide)) g_1 dX9_traces_65 ?_
  have hr_2 := hH.2.2.i (k := (5 : Int).toNat) (hLC.in (hLC.ch hg0 (by decide) gch_9_0) (by decide)).2.2 (glg_a (⟨by decide, by decide⟩ : gAr 19056 0))
  refine r_imul hM.fx dX9_traces_66 ?_
  refine r_iadd hM.fx dX9_traces_67 ?_
  obtain ⟨x_3, ex_3, hf⟩ := gst_s hf
  refine W.eq (g2 := F0 m _ ls (.int (gi x_3) :: _)) (by rw [ex_3]) ?_
  have hx_3 : gRI x_3 := by rw [ex_3]; exact (gwi_r _)
  refine lv_istore (lv' := [(4, .int (gi x_3)), (0, .ref (w.1 + a0)), (1, .int (gi x1)), (2, .int (gi x2)), (3, .int (gi x3))]) hM.fx.1 hM.fx.2.1 dX9_traces_68 hl (by decide) rfl (fun ls hl => ?_)
  refine lv_aload_n hM.fx.1 hM.fx.2.1 dX9_traces_70 rfl (lv_at hl 1 rfl) ?_
  refine r_getR hM.fx hM.kf hH hLC fl_X9_7 hg0 gch_9_0 dX9_traces_71 ?_
  refine lv_iload hM.fx.1 hM.fx.2.1 dX9_traces_74 (lv_at hl 0 rfl) ?_
  refine lv_aload_n hM.fx.1 hM.fx.2.1 dX9_traces_76 rfl (lv_at hl 1 rfl) ?_
  refine r_getR hM.fx hM.kf hH hLC fl_X9_7 hg0 gch_9_0 dX9_traces_77 ?_
  refine lv_iconst (v := gi (3)) hM.fx.1 hM.fx.2.1 dX9_traces_80 rfl ?_
  obtain ⟨g_4, hf⟩ := gif hf
  refine r_iald hM.fx hM.kf hH (hLC.in (hLC.ch hg0 (by decide) gch_9_0) (by decide)) (⟨by decide, by decide⟩ : gAr 19056 0) (gcR (k := 3) (by decide)) g_4 dX9_traces_81 ?_
  have hr_5 := hH.2.2.i (k := (3 : Int).toNat) (hLC.in (hLC.ch hg0 (by decide) gch_9_0) (by decide)).2.2 (glg_a (⟨by decide, by decide⟩ : gAr 19056 0))
  obtain ⟨g_6, hf⟩ := gif hf
  refine r_iast hM.fx hM.kf hH (hLC.in (hLC.ch hg0 (by decide) gch_9_0) (by decide)) (⟨by decide, by decide⟩ : gAr 19056 0) hx_3 g_6 hr_5 dX9_traces_82 (fun H locs hH => ?_)
  obtain ⟨M_7, eM_7, hf⟩ := gst_s hf
  rw [← eM_7] at hH
  refine lv_aload_n hM.fx.1 hM.fx.2.1 dX9_traces_83 rfl (lv_at hl 1 rfl) ?_
  refine r_getR hM.fx hM.kf hH hLC fl_X9_7 hg0 gch_9_0 dX9_traces_84 ?_
  refine lv_iload hM.fx.1 hM.fx.2.1 dX9_traces_87 (lv_at hl 0 rfl) ?_
  refine lv_iconst (v := gi (1)) hM.fx.1 hM.fx.2.1 dX9_traces_89 rfl ?_
  refine r_iadd hM.fx dX9_traces_90 ?_
  refine lv_iload_n hM.fx.1 hM.fx.2.1 dX9_traces_91 rfl (lv_at hl 2 rfl) ?_
  obtain ⟨g_8, hf⟩ := gif hf
  refine r_iast hM.fx hM.kf hH (hLC.in (hLC.ch hg0 (by decide) gch_9_0) (by decide)) (⟨by decide, by decide⟩ : gAr 19056 0) (gwi_r _) g_8 hr1 dX9_traces_92 (fun H locs hH => ?_)
  obtain ⟨M_9, eM_9, hf⟩ := gst_s hf
  rw [← eM_9] at hH
  refine lv_aload_n hM.fx.1 hM.fx.2.1 dX9_traces_93 rfl (lv_at hl 1 rfl) ?_
  refine r_getR hM.fx hM.kf hH hLC fl_X9_7 hg0 gch_9_0 dX9_traces_94 ?_
  refine lv_iload hM.fx.1 hM.fx.2.1 dX9_traces_97 (lv_at hl 0 rfl) ?_
  refine lv_iconst (v := gi (2)) hM.fx.1 hM.fx.2.1 dX9_traces_99 rfl ?_
  refine r_iadd hM.fx dX9_traces_100 ?_
  refine lv_iload_n hM.fx.1 hM.fx.2.1 dX9_traces_101 rfl (lv_at hl 3 rfl) ?_
  obtain ⟨g_10, hf⟩ := gif hf
  refine r_iast hM.fx hM.kf hH (hLC.in (hLC.ch hg0 (by decide) gch_9_0) (by decide)) (⟨by decide, by decide⟩ : gAr 19056 0) (gwi_r _) g_10 hr2 dX9_traces_102 (fun H locs hH => ?_)
  obtain ⟨M_11, eM_11, hf⟩ := gst_s hf
  rw [← eM_11] at hH
  refine lv_aload_n hM.fx.1 hM.fx.2.1 dX9_traces_103 rfl (lv_at hl 1 rfl) ?_
  refine r_getR hM.fx hM.kf hH hLC fl_X9_7 hg0 gch_9_0 dX9_traces_104 ?_
  refine lv_iload hM.fx.1 hM.fx.2.1 dX9_traces_107 (lv_at hl 0 rfl) ?_
  refine lv_iconst (v := gi (3)) hM.fx.1 hM.fx.2.1 dX9_traces_109 rfl ?_
  refine r_iadd hM.fx dX9_traces_110 ?_
  refine lv_iload_n hM.fx.1 hM.fx.2.1 dX9_traces_111 rfl (lv_at hl 4 rfl) ?_
  obtain ⟨g_12, hf⟩ := gif hf
  refine r_iast hM.fx hM.kf hH (hLC.in (hLC.ch hg0 (by decide) gch_9_0) (by decide)) (⟨by decide, by decide⟩ : gAr 19056 0) (gwi_r _) g_12 hr3 dX9_traces_112 (fun H locs hH => ?_)
  obtain ⟨M_13, eM_13, hf⟩ := gst_s hf
  rw [← eM_13] at hH
  refine lv_aload_n hM.fx.1 hM.fx.2.1 dX9_traces_113 rfl (lv_at hl 1 rfl) ?_
  refine r_getR hM.fx hM.kf hH hLC fl_X9_7 hg0 gch_9_0 dX9_traces_114 ?_
  refine lv_iconst (v := gi (5)) hM.fx.1 hM.fx.2.1 dX9_traces_117 rfl ?_
  refine lv_dup2_11 hM.fx.1 hM.fx.2.1 dX9_traces_118 rfl rfl ?_
  obtain ⟨g_14, hf⟩ := gif hf
  refine r_iald hM.fx hM.kf hH (hLC.in (hLC.ch hg0 (by decide) gch_9_0) (by decide)) (⟨by decide, by decide⟩ : gAr 19056 0) (gcR (k := 5) (by decide)) g_14 dX9_traces_119 ?_
  have hr_15 := hH.2.2.i (k := (5 : Int).toNat) (hLC.in (hLC.ch hg0 (by decide) gch_9_0) (by decide)).2.2 (glg_a (⟨by decide, by decide⟩ : gAr 19056 0))
  refine lv_iconst (v := gi (1)) hM.fx.1 hM.fx.2.1 dX9_traces_120 rfl ?_
  refine r_iadd hM.fx dX9_traces_121 ?_
  obtain ⟨g_16, hf⟩ := gif hf
  refine r_iast hM.fx hM.kf hH (hLC.in (hLC.ch hg0 (by decide) gch_9_0) (by decide)) (⟨by decide, by decide⟩ : gAr 19056 0) (gcR (k := 5) (by decide)) g_16 (gwi_r _) dX9_traces_122 (fun H locs hH => ?_)
  obtain ⟨M_17, eM_17, hf⟩ := gst_s hf
  rw [← eM_17] at hH
  obtain rfl := Option.some.inj hf
  exact r_vret hM hH trivial ⟨(Nat.le_of_ble_eq_true rfl), (Nat.le_of_ble_eq_true rfl)⟩ dX9_traces_123
def fX9_traces_16 (g : Nat → Nat)  : Nat → Nat → Int → Int → Int → Int → gMem → Option gMem
  | 0, _, _, _, _, _, _ => none
  | fu + 1, a0, x1, x2, x3, x4, M => if 1186 ≤ x4 then (if (0 : Int) ≤ 5 ∧ (5 : Int) < 1190 then if (0 : Int) ≤ 5 ∧ (5 : Int) < 1190 then gst (gup M (a0 + 1) (5 : Int).toNat (gwi (M (a0 + 1) (5 : Int).toNat - 1))) fun M_5 => fX9_traces_56 g a0 x1 x2 x3 M_5 else none else none) else (if (0 : Int) ≤ gwi (x4 + 4) ∧ (gwi (x4 + 4) : Int) < 1190 then if (0 : Int) ≤ x4 ∧ (x4 : Int) < 1190 then gst (gup M (a0 + 1) x4.toNat (M (a0 + 1) (gwi (x4 + 4)).toNat)) fun M_9 => gst (gwi (x4 + 1)) fun x_10 => fX9_traces_16 g fu a0 x1 x2 x3 x_10 M_9 else none else none)
set_option maxHeartbeats 4000000 in
set_option maxRecDepth 100000 in
theorem wX9_traces_16 {w : gW} {n : Nat} {Rm : Nat → Nat → Nat} {g : Nat → Nat} (hLC : gLC g n Rm) {p : Program} {l : Launch} {e : Env} {s : State} {m : MethodId} {args : Array Value} {below : List Frame} {meth : Method} {c : Code} (hM : gMC w p l s m args meth c cX9_traces 5 RX9 none)  : ∀ (fu : Nat), ∀ (a0 : Nat) (x1 : Int) (x2 : Int) (x3 : Int) (x4 : Int) (M : gMem) (r : gMem) (hg0 : g a0 = 9) (hr1 : gRI x1) (hr2 : gRI x2) (hr3 : gRI x3) (hr4 : gRI x4) (hf : fX9_traces_16 g fu a0 x1 x2 x3 x4 M = some r) (H : Heap) (locs : List Loc) (ls : Array Slot) (hH : gH w n Rm M s H locs) (hl : lv_has ls 5 [(0, .ref (w.1 + a0)), (1, .int (gi x1)), (2, .int (gi x2)), (3, .int (gi x3)), (4, .int (gi x4))]), W p l e { frames := 1, cells := 0, slots := 0, locals := 60 } s m args below meth c H locs 0 0 (gQ w n Rm below args s 0 0 (.inr none) r True) (F0 m 16 ls []) := by
  intro fu
  induction fu with
  | zero =>
    intro a0 x1 x2 x3 x4 M r hg0 hr1 hr2 hr3 hr4 hf H locs ls hH hl
    exact absurd hf (by simp [fX9_traces_16])
  | succ fu ih =>
    intro a0 x1 x2 x3 x4 M r hg0 hr1 hr2 hr3 hr4 hf H locs ls hH hl
    unfold fX9_traces_16 at hf
    refine lv_iload hM.fx.1 hM.fx.2.1 dX9_traces_16 (lv_at hl 4 rfl) ?_
    refine lv_sipush (v := gi (1186)) hM.fx.1 hM.fx.2.1 dX9_traces_18 (by decide) ?_
    refine r_icmp_ge (tgt := 46) hM.fx hr4 (gcR (k := 1186) (by decide)) dX9_traces_21 (by decide) (fun h_1 => ?_) (fun h_1 => ?_)
    · have hf := gpos h_1 hf
      refine lv_aload_n hM.fx.1 hM.fx.2.1 dX9_traces_46 rfl (lv_at hl 0 rfl) ?_
      refine r_getR hM.fx hM.kf hH hLC fl_X9_7 hg0 gch_9_0 dX9_traces_47 ?_
      refine lv_iconst (v := gi (5)) hM.fx.1 hM.fx.2.1 dX9_traces_50 rfl ?_
      refine lv_dup2_11 hM.fx.1 hM.fx.2.1 dX9_traces_51 rfl rfl ?_
      obtain ⟨g_2, hf⟩ := gif hf
      refine r_iald hM.fx hM.kf hH (hLC.in (hLC.ch hg0 (by decide) gch_9_0) (by decide)) (⟨by decide, by decide⟩ : gAr 19056 0) (gcR (k := 5) (by decide)) g_2 dX9_traces_52 ?_
      have hr_3 := hH.2.2.i (k := (5 : Int).toNat) (hLC.in (hLC.ch hg0 (by decide) gch_9_0) (by decide)).2.2 (glg_a (⟨by decide, by decide⟩ : gAr 19056 0))
      refine lv_iconst (v := gi (1)) hM.fx.1 hM.fx.2.1 dX9_traces_53 rfl ?_
      refine r_isub hM.fx dX9_traces_54 ?_
      obtain ⟨g_4, hf⟩ := gif hf
      refine r_iast hM.fx hM.kf hH (hLC.in (hLC.ch hg0 (by decide) gch_9_0) (by decide)) (⟨by decide, by decide⟩ : gAr 19056 0) (gcR (k := 5) (by decide)) g_4 (gwi_r _) dX9_traces_55 (fun H locs hH => ?_)
      obtain ⟨M_5, eM_5, hf⟩ := gst_s hf
      rw [← eM_5] at hH
      exact wX9_traces_56 hLC hM   _ _ _ _ _ _ hg0 hr1 hr2 hr3 hf _ _ _ hH (lv_sub hl [0, 1, 2, 3] rfl)
    · have hf := gneg' h_1 hf
      refine lv_aload_n hM.fx.1 hM.fx.2.1 dX9_traces_24 rfl (lv_at hl 0 rfl) ?_
      refine r_getR hM.fx hM.kf hH hLC fl_X9_7 hg0 gch_9_0 dX9_traces_25 ?_
      refine lv_iload hM.fx.1 hM.fx.2.1 dX9_traces_28 (lv_at hl 4 rfl) ?_
      refine lv_aload_n hM.fx.1 hM.fx.2.1 dX9_traces_30 rfl (lv_at hl 0 rfl) ?_
      refine r_getR hM.fx hM.kf hH hLC fl_X9_7 hg0 gch_9_0 dX9_traces_31 ?_
      refine lv_iload hM.fx.1 hM.fx.2.1 dX9_traces_34 (lv_at hl 4 rfl) ?_
      refine lv_iconst (v := gi (4)) hM.fx.1 hM.fx.2.1 dX9_traces_36 rfl ?_
      refine r_iadd hM.fx dX9_traces_37 ?_
      obtain ⟨g_6, hf⟩ := gif hf
      refine r_iald hM.fx hM.kf hH (hLC.in (hLC.ch hg0 (by decide) gch_9_0) (by decide)) (⟨by decide, by decide⟩ : gAr 19056 0) (gwi_r _) g_6 dX9_traces_38 ?_
      have hr_7 := hH.2.2.i (k := (gwi (x4 + 4)).toNat) (hLC.in (hLC.ch hg0 (by decide) gch_9_0) (by decide)).2.2 (glg_a (⟨by decide, by decide⟩ : gAr 19056 0))
      obtain ⟨g_8, hf⟩ := gif hf
      refine r_iast hM.fx hM.kf hH (hLC.in (hLC.ch hg0 (by decide) gch_9_0) (by decide)) (⟨by decide, by decide⟩ : gAr 19056 0) hr4 g_8 hr_7 dX9_traces_39 (fun H locs hH => ?_)
      obtain ⟨M_9, eM_9, hf⟩ := gst_s hf
      rw [← eM_9] at hH
      obtain ⟨x_10, ex_10, hf⟩ := gst_s hf
      have hx_10 : gRI x_10 := by rw [ex_10]; exact gwi_r _
      refine r_iinc (lv' := [(4, .int (gi x_10)), (0, .ref (w.1 + a0)), (1, .int (gi x1)), (2, .int (gi x2)), (3, .int (gi x3))]) hM.fx dX9_traces_40 hl (k := 4) rfl (by decide) (by rw [ex_10]; rfl) (fun ls hl => ?_)
      refine lv_goto (tgt := 16) hM.fx.1 hM.fx.2.1 dX9_traces_43 (by decide) ?_
      exact ih _ _ _ _ _ _ _ hg0 hr1 hr2 hr3 hx_10 hf _ _ _ hH (lv_sub hl [1, 2, 3, 4, 0] rfl)
def fX9_traces (g : Nat → Nat) (a0 : Nat) (x1 : Int) (x2 : Int) (x3 : Int) (M : gMem) : Option gMem :=
  if (0 : Int) ≤ 5 ∧ (5 : Int) < 1190 then if M (a0 + 1) (5 : Int).toNat = 40 then (fX9_traces_16 g gF a0 x1 x2 x3 1030 M) else (fX9_traces_56 g a0 x1 x2 x3 M) else none
set_option maxHeartbeats 4000000 in
set_option maxRecDepth 100000 in
theorem mX9_traces {w : gW} {n : Nat} {Rm : Nat → Nat → Nat} {g : Nat → Nat} (hLC : gLC g n Rm) {l : Launch} (hl9 : l.stackTraces = false) {a0 : Nat} {x1 : Int} {x2 : Int} {x3 : Int} {M : gMem} {r : gMem} (hg0 : g a0 = 9) (hr1 : gRI x1) (hr2 : gRI x2) (hr3 : gRI x3) (hf : fX9_traces g a0 x1 x2 x3 M = some r) : gMT w n Rm l yX9_traces cX9_traces 5 none 1 60 0 0 [.ref (w.1 + a0), .int (gi x1), .int (gi x2), .int (gi x3)] M (.inr none) r True := by
  unfold fX9_traces at hf
  refine gMT.of hl9 (by decide +kernel) ((Nat.le_of_ble_eq_true rfl)) ?_
  intro p e s m below meth c hM hH ls hl
  have hM : gMC w p l s m ([.ref (w.1 + a0), .int (gi x1), .int (gi x2), .int (gi x3)] : List Value).toArray meth c cX9_traces 5 RX9 none := hM
  have hl : lv_has ls 5 [(0, .ref (w.1 + a0)), (1, .int (gi x1)), (2, .int (gi x2)), (3, .int (gi x3))] := hl
  refine lv_aload_n hM.fx.1 hM.fx.2.1 dX9_traces_0 rfl (lv_at hl 0 rfl) ?_
  refine r_getR hM.fx hM.kf hH hLC fl_X9_7 hg0 gch_9_0 dX9_traces_1 ?_
  refine lv_iconst (v := gi (5)) hM.fx.1 hM.fx.2.1 dX9_traces_4 rfl ?_
  obtain ⟨g_1, hf⟩ := gif hf
  refine r_iald hM.fx hM.kf hH (hLC.in (hLC.ch hg0 (by decide) gch_9_0) (by decide)) (⟨by decide, by decide⟩ : gAr 19056 0) (gcR (k := 5) (by decide)) g_1 dX9_traces_5 ?_
  have hr_2 := hH.2.2.i (k := (5 : Int).toNat) (hLC.in (hLC.ch hg0 (by decide) gch_9_0) (by decide)).2.2 (glg_a (⟨by decide, by decide⟩ : gAr 19056 0))
  refine lv_bipush (v := gi (40)) hM.fx.1 hM.fx.2.1 dX9_traces_6 (by decide) ?_
  refine r_icmp_ne (tgt := 56) hM.fx hr_2 (gcR (k := 40) (by decide)) dX9_traces_8 (by decide) (fun h_3 => ?_) (fun h_3 => ?_)
  · have hf := gneg' h_3 hf
    exact wX9_traces_56 hLC hM   _ _ _ _ _ _ hg0 hr1 hr2 hr3 hf _ _ _ hH hl
  · have hf := gpos h_3 hf
    refine lv_sipush (v := gi (1030)) hM.fx.1 hM.fx.2.1 dX9_traces_11 (by decide) ?_
    refine lv_istore (lv' := [(4, .int (gi 1030)), (0, .ref (w.1 + a0)), (1, .int (gi x1)), (2, .int (gi x2)), (3, .int (gi x3))]) hM.fx.1 hM.fx.2.1 dX9_traces_14 hl (by decide) rfl (fun ls hl => ?_)
    exact wX9_traces_16 hLC hM  gF _ _ _ _ _ _ _ hg0 hr1 hr2 hr3 (gcR (k := 1030) (by decide)) hf _ _ _ hH (lv_sub hl [1, 2, 3, 4, 0] rfl)
