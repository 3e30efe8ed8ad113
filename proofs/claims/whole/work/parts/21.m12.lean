def fX9_setTurn_28 (g : Nat → Nat)  (a0 : Nat) (x1 : Int) (x2 : Int) (as0 : Nat) (xs1 : Int) (M : gMem) : Option (Int × gMem) :=
  gst (gup M as0 7 xs1) fun M_1 => if M_1 a0 7 ≤ 0 then ((fX9_keeps g a0 (a0 + 1) M_1).bind fun M_5 => (fX9_of g a0 x1 4 M_5).bind fun x_7 => (fX9_sets g a0 x1 4 x2 M_5).bind fun M_9 => some (x_7, M_9)) else (some (0, M_1))
set_option maxHeartbeats 4000000 in
set_option maxRecDepth 100000 in
theorem wX9_setTurn_28 {w : gW} {n : Nat} {Rm : Nat → Nat → Nat} {g : Nat → Nat} (hLC : gLC g n Rm) {p : Program} {l : Launch} {e : Env} {s : State} {m : MethodId} {args : Array Value} {below : List Frame} {meth : Method} {c : Code} (hM : gMC w p l s m args meth c cX9_setTurn 4 RX9 (some .int))  : ∀ (a0 : Nat) (x1 : Int) (x2 : Int) (as0 : Nat) (xs1 : Int) (M : gMem) (r : (Int × gMem)) (hg0 : g a0 = 9) (hr1 : gRI x1) (hr2 : gRI x2) (hgs0 : g as0 = 9) (hrs1 : gRI xs1) (hf : fX9_setTurn_28 g a0 x1 x2 as0 xs1 M = some r) (H : Heap) (locs : List Loc) (ls : Array Slot) (hH : gH w n Rm M s H locs) (hl : lv_has ls 4 [(0, .ref (w.1 + a0)), (1, .int (gi x1)), (2, .int (gi x2))]), W p l e { frames := 3, cells := 0, slots := 0, locals := 106 } s m args below meth c H locs 0 0 (gQ w n Rm below args s 0 0 (.inr (some (.int (gi r.1)))) r.2 (gRI r.1)) (F0 m 28 ls [.int (gi xs1), .ref (w.1 + as0)]) := by
  intro a0 x1 x2 as0 xs1 M r hg0 hr1 hr2 hgs0 hrs1 hf H locs ls hH hl
  unfold fX9_setTurn_28 at hf
  refine r_putI hM.fx hM.kf hH fp_X9_46 (hLC.in hgs0 (by decide)) hrs1 dX9_setTurn_28 (fun H locs hH => ?_)
  obtain ⟨M_1, eM_1, hf⟩ := gst_s hf
  rw [← eM_1] at hH
  refine lv_aload_n hM.fx.1 hM.fx.2.1 dX9_setTurn_31 rfl (lv_at hl 0 rfl) ?_
  refine r_getI hM.fx hM.kf hH fl_X9_46 (hLC.in hg0 (by decide)) dX9_setTurn_32 ?_
  have hr_2 := hH.2.2.i (hLC.in hg0 (by decide)).2.2 (by decide : glg 9 7 = false)
  refine r_if_le (tgt := 40) hM.fx hr_2 dX9_setTurn_35 (by decide) (fun h_3 => ?_) (fun h_3 => ?_)
  · have hf := gpos h_3 hf
    refine lv_aload_n hM.fx.1 hM.fx.2.1 dX9_setTurn_40 rfl (lv_at hl 0 rfl) ?_
    refine lv_aload_n hM.fx.1 hM.fx.2.1 dX9_setTurn_41 rfl (lv_at hl 0 rfl) ?_
    refine r_getR hM.fx hM.kf hH hLC fl_X9_7 hg0 gch_9_0 dX9_setTurn_42 ?_
    obtain ⟨M_5, eM_5, hf⟩ := gbd hf
    refine r_go0 hH rfl (r_runV (As := [.ref (w.1 + (a0 + 1))]) hM hH cv_X9_60 (mX9_keeps hLC hM.ns hg0 (by rw [(hLC.ch hg0 (by decide) gch_9_0)]; exact (⟨by decide, by decide⟩ : gAr 19056 0)) eM_5) (hLC.in hg0 (by decide)) (by decide) rfl rfl rfl hl.1 rfl (Nat.le_of_ble_eq_true rfl) ⟨(Nat.le_of_ble_eq_true rfl), (Nat.le_of_ble_eq_true rfl)⟩ ⟨(Nat.le_of_ble_eq_true rfl), (Nat.le_of_ble_eq_true rfl)⟩ dX9_setTurn_45) (fun hp_4 H locs hH => ?_)
    refine lv_aload_n hM.fx.1 hM.fx.2.1 dX9_setTurn_48 rfl (lv_at hl 0 rfl) ?_
    refine lv_iload_n hM.fx.1 hM.fx.2.1 dX9_setTurn_49 rfl (lv_at hl 1 rfl) ?_
    refine lv_iconst (v := gi (4)) hM.fx.1 hM.fx.2.1 dX9_setTurn_50 rfl ?_
    obtain ⟨x_7, ex_7, hf⟩ := gbd hf
    refine r_go1 hH rfl (r_runV (As := [.int (gi x1), .int (gi 4)]) hM hH cv_X9_135 (mX9_of hLC hM.ns hg0 hr1 (gcR (k := 4) (by decide)) ex_7) (hLC.in hg0 (by decide)) (by decide) rfl rfl rfl hl.1 rfl (Nat.le_of_ble_eq_true rfl) ⟨(Nat.le_of_ble_eq_true rfl), (Nat.le_of_ble_eq_true rfl)⟩ ⟨(Nat.le_of_ble_eq_true rfl), (Nat.le_of_ble_eq_true rfl)⟩ dX9_setTurn_51) (fun hp_6 H locs hH => ?_)
    refine lv_istore_n (lv' := [(3, .int (gi x_7)), (0, .ref (w.1 + a0)), (1, .int (gi x1)), (2, .int (gi x2))]) hM.fx.1 hM.fx.2.1 dX9_setTurn_54 rfl hl (by decide) rfl (fun ls hl => ?_)
    refine lv_aload_n hM.fx.1 hM.fx.2.1 dX9_setTurn_55 rfl (lv_at hl 1 rfl) ?_
    refine lv_iload_n hM.fx.1 hM.fx.2.1 dX9_setTurn_56 rfl (lv_at hl 2 rfl) ?_
    refine lv_iconst (v := gi (4)) hM.fx.1 hM.fx.2.1 dX9_setTurn_57 rfl ?_
    refine lv_iload_n hM.fx.1 hM.fx.2.1 dX9_setTurn_58 rfl (lv_at hl 3 rfl) ?_
    obtain ⟨M_9, eM_9, hf⟩ := gbd hf
    refine r_go0 hH rfl (r_runV (As := [.int (gi x1), .int (gi 4), .int (gi x2)]) hM hH cv_X9_42 (mX9_sets hLC hM.ns hg0 hr1 (gcR (k := 4) (by decide)) hr2 eM_9) (hLC.in hg0 (by decide)) (by decide) rfl rfl rfl hl.1 rfl (Nat.le_of_ble_eq_true rfl) ⟨(Nat.le_of_ble_eq_true rfl), (Nat.le_of_ble_eq_true rfl)⟩ ⟨(Nat.le_of_ble_eq_true rfl), (Nat.le_of_ble_eq_true rfl)⟩ dX9_setTurn_59) (fun hp_8 H locs hH => ?_)
    refine lv_iload_n hM.fx.1 hM.fx.2.1 dX9_setTurn_62 rfl (lv_at hl 0 rfl) ?_
    obtain rfl := Option.some.inj hf
    exact r_iret hM hH hp_6 ⟨(Nat.le_of_ble_eq_true rfl), (Nat.le_of_ble_eq_true rfl)⟩ dX9_setTurn_63
  · have hf := gneg' h_3 hf
    refine lv_iconst (v := gi (0)) hM.fx.1 hM.fx.2.1 dX9_setTurn_38 rfl ?_
    obtain rfl := Option.some.inj hf
    exact r_iret hM hH (gcR (k := 0) (by decide)) ⟨(Nat.le_of_ble_eq_true rfl), (Nat.le_of_ble_eq_true rfl)⟩ dX9_setTurn_39
def fX9_setTurn (g : Nat → Nat) (a0 : Nat) (x1 : Int) (x2 : Int) (M : gMem) : Option (Int × gMem) :=
  (fX9_isProcess g a0 x1 M).bind fun x_2 => if x_2 = 0 then (fX9_setTurn_28 g a0 x1 x2 a0 1 M) else ((fX9_isIn g x2 1 9).bind fun x_5 => if x_5 = 0 then (fX9_setTurn_28 g a0 x1 x2 a0 2 M) else (fX9_setTurn_28 g a0 x1 x2 a0 0 M))
set_option maxHeartbeats 4000000 in
set_option maxRecDepth 100000 in
theorem mX9_setTurn {w : gW} {n : Nat} {Rm : Nat → Nat → Nat} {g : Nat → Nat} (hLC : gLC g n Rm) {l : Launch} (hl9 : l.stackTraces = false) {a0 : Nat} {x1 : Int} {x2 : Int} {M : gMem} {r : (Int × gMem)} (hg0 : g a0 = 9) (hr1 : gRI x1) (hr2 : gRI x2) (hf : fX9_setTurn g a0 x1 x2 M = some r) : gMT w n Rm l yX9_setTurn cX9_setTurn 4 (some .int) 3 106 0 0 [.ref (w.1 + a0), .int (gi x1), .int (gi x2)] M (.inr (some (.int (gi r.1)))) r.2 (gRI r.1) := by
  unfold fX9_setTurn at hf
  refine gMT.of hl9 (by decide +kernel) ((Nat.le_of_ble_eq_true rfl)) ?_
  intro p e s m below meth c hM hH ls hl
  have hM : gMC w p l s m ([.ref (w.1 + a0), .int (gi x1), .int (gi x2)] : List Value).toArray meth c cX9_setTurn 4 RX9 (some .int) := hM
  have hl : lv_has ls 4 [(0, .ref (w.1 + a0)), (1, .int (gi x1)), (2, .int (gi x2))] := hl
  refine lv_aload_n hM.fx.1 hM.fx.2.1 dX9_setTurn_0 rfl (lv_at hl 0 rfl) ?_
  refine lv_aload_n hM.fx.1 hM.fx.2.1 dX9_setTurn_1 rfl (lv_at hl 0 rfl) ?_
  refine lv_iload_n hM.fx.1 hM.fx.2.1 dX9_setTurn_2 rfl (lv_at hl 1 rfl) ?_
  obtain ⟨x_2, ex_2, hf⟩ := gbd hf
  refine r_go1 hH rfl (r_runV (As := [.int (gi x1)]) hM hH cv_X9_319 (mX9_isProcess hLC hM.ns hg0 hr1 ex_2) (hLC.in hg0 (by decide)) (by decide) rfl rfl rfl hl.1 rfl (Nat.le_of_ble_eq_true rfl) ⟨(Nat.le_of_ble_eq_true rfl), (Nat.le_of_ble_eq_true rfl)⟩ ⟨(Nat.le_of_ble_eq_true rfl), (Nat.le_of_ble_eq_true rfl)⟩ dX9_setTurn_3) (fun hp_1 H locs hH => ?_)
  refine r_if_ne (tgt := 13) hM.fx (gz_r hp_1) dX9_setTurn_6 (by decide) (fun h_3 => ?_) (fun h_3 => ?_)
  · have hf := gneg' h_3 hf
    refine lv_iload_n hM.fx.1 hM.fx.2.1 dX9_setTurn_13 rfl (lv_at hl 2 rfl) ?_
    refine lv_iconst (v := gi (1)) hM.fx.1 hM.fx.2.1 dX9_setTurn_14 rfl ?_
    refine lv_bipush (v := gi (9)) hM.fx.1 hM.fx.2.1 dX9_setTurn_15 (by decide) ?_
    obtain ⟨x_5, ex_5, hf⟩ := gbd hf
    refine r_go1 hH rfl (r_runS (As := [.int (gi x2), .int (gi 1), .int (gi 9)]) hM hH cs_X9_56 (mX9_isIn hLC hM.ns hr2 (gcR (k := 1) (by decide)) (gcR (k := 9) (by decide)) ex_5) rfl hl.1 rfl (Nat.le_of_ble_eq_true rfl) ⟨(Nat.le_of_ble_eq_true rfl), (Nat.le_of_ble_eq_true rfl)⟩ ⟨(Nat.le_of_ble_eq_true rfl), (Nat.le_of_ble_eq_true rfl)⟩ dX9_setTurn_17) (fun hp_4 H locs hH => ?_)
    refine r_if_eq (tgt := 27) hM.fx (gz_r hp_4) dX9_setTurn_20 (by decide) (fun h_6 => ?_) (fun h_6 => ?_)
    · have hf := gpos h_6 hf
      refine lv_iconst (v := gi (2)) hM.fx.1 hM.fx.2.1 dX9_setTurn_27 rfl ?_
      exact wX9_setTurn_28 hLC hM   _ _ _ _ _ _ _ hg0 hr1 hr2 hg0 (gcR (k := 2) (by decide)) hf _ _ _ hH hl
    · have hf := gneg' h_6 hf
      refine lv_iconst (v := gi (0)) hM.fx.1 hM.fx.2.1 dX9_setTurn_23 rfl ?_
      refine lv_goto (tgt := 28) hM.fx.1 hM.fx.2.1 dX9_setTurn_24 (by decide) ?_
      exact wX9_setTurn_28 hLC hM   _ _ _ _ _ _ _ hg0 hr1 hr2 hg0 (gcR (k := 0) (by decide)) hf _ _ _ hH hl
  · have hf := gpos h_3 hf
    refine lv_iconst (v := gi (1)) hM.fx.1 hM.fx.2.1 dX9_setTurn_9 rfl ?_
    refine lv_goto (tgt := 28) hM.fx.1 hM.fx.2.1 dX9_setTurn_10 (by decide) ?_
    exact wX9_setTurn_28 hLC hM   _ _ _ _ _ _ _ hg0 hr1 hr2 hg0 (gcR (k := 1) (by decide)) hf _ _ _ hH hl
def fX9_put_30 (g : Nat → Nat)  (a0 : Nat) (x1 : Int) (x2 : Int) (as0 : Nat) (xs1 : Int) (M : gMem) : Option (Int × gMem) :=
  gst (gup M as0 7 xs1) fun M_1 => if M_1 a0 7 ≤ 0 then ((fX9_ofStack g a0 x1 1 M_1).bind fun x_5 => (fX9_ofStack g a0 x1 0 M_1).bind fun x_7 => if x_5 = x_7 then (some ((-11), M_1)) else ((fX9_keeps g a0 (a0 + 1) M_1).bind fun M_10 => (fX9_pushes g a0 x1 x2 M_10).bind fun M_12 => (fX9_ofStack g a0 x1 1 M_12).bind fun x_14 => some (x_14, M_12))) else (some (0, M_1))
set_option maxHeartbeats 4000000 in
set_option maxRecDepth 100000 in
theorem wX9_put_30 {w : gW} {n : Nat} {Rm : Nat → Nat → Nat} {g : Nat → Nat} (hLC : gLC g n Rm) {p : Program} {l : Launch} {e : Env} {s : State} {m : MethodId} {args : Array Value} {below : List Frame} {meth : Method} {c : Code} (hM : gMC w p l s m args meth c cX9_put 3 RX9 (some .int))  : ∀ (a0 : Nat) (x1 : Int) (x2 : Int) (as0 : Nat) (xs1 : Int) (M : gMem) (r : (Int × gMem)) (hg0 : g a0 = 9) (hr1 : gRI x1) (hr2 : gRI x2) (hgs0 : g as0 = 9) (hrs1 : gRI xs1) (hf : fX9_put_30 g a0 x1 x2 as0 xs1 M = some r) (H : Heap) (locs : List Loc) (ls : Array Slot) (hH : gH w n Rm M s H locs) (hl : lv_has ls 3 [(0, .ref (w.1 + a0)), (1, .int (gi x1)), (2, .int (gi x2))]), W p l e { frames := 3, cells := 0, slots := 0, locals := 106 } s m args below meth c H locs 0 0 (gQ w n Rm below args s 0 0 (.inr (some (.int (gi r.1)))) r.2 (gRI r.1)) (F0 m 30 ls [.int (gi xs1), .ref (w.1 + as0)]) := by
  intro a0 x1 x2 as0 xs1 M r hg0 hr1 hr2 hgs0 hrs1 hf H locs ls hH hl
  unfold fX9_put_30 at hf
  refine r_putI hM.fx hM.kf hH fp_X9_46 (hLC.in hgs0 (by decide)) hrs1 dX9_put_30 (fun H locs hH => ?_)
  obtain ⟨M_1, eM_1, hf⟩ := gst_s hf
  rw [← eM_1] at hH
  refine lv_aload_n hM.fx.1 hM.fx.2.1 dX9_put_33 rfl (lv_at hl 0 rfl) ?_
  refine r_getI hM.fx hM.kf hH fl_X9_46 (hLC.in hg0 (by decide)) dX9_put_34 ?_
  have hr_2 := hH.2.2.i (hLC.in hg0 (by decide)).2.2 (by decide : glg 9 7 = false)
  refine r_if_le (tgt := 42) hM.fx hr_2 dX9_put_37 (by decide) (fun h_3 => ?_) (fun h_3 => ?_)
  · have hf := gpos h_3 hf
    refine lv_aload_n hM.fx.1 hM.fx.2.1 dX9_put_42 rfl (lv_at hl 0 rfl) ?_
    refine lv_iload_n hM.fx.1 hM.fx.2.1 dX9_put_43 rfl (lv_at hl 1 rfl) ?_
    refine lv_iconst (v := gi (1)) hM.fx.1 hM.fx.2.1 dX9_put_44 rfl ?_
    obtain ⟨x_5, ex_5, hf⟩ := gbd hf
    refine r_go1 hH rfl (r_runV (As := [.int (gi x1), .int (gi 1)]) hM hH cv_X9_232 (mX9_ofStack hLC hM.ns hg0 hr1 (gcR (k := 1) (by decide)) ex_5) (hLC.in hg0 (by decide)) (by decide) rfl rfl rfl hl.1 rfl (Nat.le_of_ble_eq_true rfl) ⟨(Nat.le_of_ble_eq_true rfl), (Nat.le_of_ble_eq_true rfl)⟩ ⟨(Nat.le_of_ble_eq_true rfl), (Nat.le_of_ble_eq_true rfl)⟩ dX9_put_45) (fun hp_4 H locs hH => ?_)
    refine lv_aload_n hM.fx.1 hM.fx.2.1 dX9_put_48 rfl (lv_at hl 0 rfl) ?_
    refine lv_iload_n hM.fx.1 hM.fx.2.1 dX9_put_49 rfl (lv_at hl 1 rfl) ?_
    refine lv_iconst (v := gi (0)) hM.fx.1 hM.fx.2.1 dX9_put_50 rfl ?_
    obtain ⟨x_7, ex_7, hf⟩ := gbd hf
    refine r_go1 hH rfl (r_runV (As := [.int (gi x1), .int (gi 0)]) hM hH cv_X9_232 (mX9_ofStack hLC hM.ns hg0 hr1 (gcR (k := 0) (by decide)) ex_7) (hLC.in hg0 (by decide)) (by decide) rfl rfl rfl hl.1 rfl (Nat.le_of_ble_eq_true rfl) ⟨(Nat.le_of_ble_eq_true rfl), (Nat.le_of_ble_eq_true rfl)⟩ ⟨(Nat.le_of_ble_eq_true rfl), (Nat.le_of_ble_eq_true rfl)⟩ dX9_put_51) (fun hp_6 H locs hH => ?_)
    refine r_icmp_ne (tgt := 60) hM.fx hp_4 hp_6 dX9_put_54 (by decide) (fun h_8 => ?_) (fun h_8 => ?_)
    · have hf := gneg' h_8 hf
      refine lv_aload_n hM.fx.1 hM.fx.2.1 dX9_put_60 rfl (lv_at hl 0 rfl) ?_
      refine lv_aload_n hM.fx.1 hM.fx.2.1 dX9_put_61 rfl (lv_at hl 0 rfl) ?_
      refine r_getR hM.fx hM.kf hH hLC fl_X9_7 hg0 gch_9_0 dX9_put_62 ?_
      obtain ⟨M_10, eM_10, hf⟩ := gbd hf
      refine r_go0 hH rfl (r_runV (As := [.ref (w.1 + (a0 + 1))]) hM hH cv_X9_60 (mX9_keeps hLC hM.ns hg0 (by rw [(hLC.ch hg0 (by decide) gch_9_0)]; exact (⟨by decide, by decide⟩ : gAr 19056 0)) eM_10) (hLC.in hg0 (by decide)) (by decide) rfl rfl rfl hl.1 rfl (Nat.le_of_ble_eq_true rfl) ⟨(Nat.le_of_ble_eq_true rfl), (Nat.le_of_ble_eq_true rfl)⟩ ⟨(Nat.le_of_ble_eq_true rfl), (Nat.le_of_ble_eq_true rfl)⟩ dX9_put_65) (fun hp_9 H locs hH => ?_)
      refine lv_aload_n hM.fx.1 hM.fx.2.1 dX9_put_68 rfl (lv_at hl 0 rfl) ?_
      refine lv_iload_n hM.fx.1 hM.fx.2.1 dX9_put_69 rfl (lv_at hl 1 rfl) ?_
      refine lv_iload_n hM.fx.1 hM.fx.2.1 dX9_put_70 rfl (lv_at hl 2 rfl) ?_
      obtain ⟨M_12, eM_12, hf⟩ := gbd hf
      refine r_go0 hH rfl (r_runV (As := [.int (gi x1), .int (gi x2)]) hM hH cv_X9_270 (mX9_pushes hLC hM.ns hg0 hr1 hr2 eM_12) (hLC.in hg0 (by decide)) (by decide) rfl rfl rfl hl.1 rfl (Nat.le_of_ble_eq_true rfl) ⟨(Nat.le_of_ble_eq_true rfl), (Nat.le_of_ble_eq_true rfl)⟩ ⟨(Nat.le_of_ble_eq_true rfl), (Nat.le_of_ble_eq_true rfl)⟩ dX9_put_71) (fun hp_11 H locs hH => ?_)
      refine lv_aload_n hM.fx.1 hM.fx.2.1 dX9_put_74 rfl (lv_at hl 0 rfl) ?_
      refine lv_iload_n hM.fx.1 hM.fx.2.1 dX9_put_75 rfl (lv_at hl 1 rfl) ?_
      refine lv_iconst (v := gi (1)) hM.fx.1 hM.fx.2.1 dX9_put_76 rfl ?_
      obtain ⟨x_14, ex_14, hf⟩ := gbd hf
      refine r_go1 hH rfl (r_runV (As := [.int (gi x1), .int (gi 1)]) hM hH cv_X9_232 (mX9_ofStack hLC hM.ns hg0 hr1 (gcR (k := 1) (by decide)) ex_14) (hLC.in hg0 (by decide)) (by decide) rfl rfl rfl hl.1 rfl (Nat.le_of_ble_eq_true rfl) ⟨(Nat.le_of_ble_eq_true rfl), (Nat.le_of_ble_eq_true rfl)⟩ ⟨(Nat.le_of_ble_eq_true rfl), (Nat.le_of_ble_eq_true rfl)⟩ dX9_put_77) (fun hp_13 H locs hH => ?_)
      obtain rfl := Option.some.inj hf
      exact r_iret hM hH hp_13 ⟨(Nat.le_of_ble_eq_true rfl), (Nat.le_of_ble_eq_true rfl)⟩ dX9_put_80
    · have hf := gpos h_8 hf
      refine lv_bipush (v := gi (-11)) hM.fx.1 hM.fx.2.1 dX9_put_57 (by decide) ?_
      obtain rfl := Option.some.inj hf
      exact r_iret hM hH (gcR (k := -11) (by decide)) ⟨(Nat.le_of_ble_eq_true rfl), (Nat.le_of_ble_eq_true rfl)⟩ dX9_put_59
  · have hf := gneg' h_3 hf
    refine lv_iconst (v := gi (0)) hM.fx.1 hM.fx.2.1 dX9_put_40 rfl ?_
    obtain rfl := Option.some.inj hf
    exact r_iret hM hH (gcR (k := 0) (by decide)) ⟨(Nat.le_of_ble_eq_true rfl), (Nat.le_of_ble_eq_true rfl)⟩ dX9_put_41
def fX9_put (g : Nat → Nat) (a0 : Nat) (x1 : Int) (x2 : Int) (M : gMem) : Option (Int × gMem) :=
  (fX9_isStack g a0 x1 M).bind fun x_2 => if x_2 = 0 then (fX9_put_30 g a0 x1 x2 a0 1 M) else ((fX9_isIn g x2 ((-999999)) 999999).bind fun x_5 => if x_5 = 0 then (fX9_put_30 g a0 x1 x2 a0 2 M) else (fX9_put_30 g a0 x1 x2 a0 0 M))
set_option maxHeartbeats 4000000 in
set_option maxRecDepth 100000 in
theorem mX9_put {w : gW} {n : Nat} {Rm : Nat → Nat → Nat} {g : Nat → Nat} (hLC : gLC g n Rm) {l : Launch} (hl9 : l.stackTraces = false) {a0 : Nat} {x1 : Int} {x2 : Int} {M : gMem} {r : (Int × gMem)} (hg0 : g a0 = 9) (hr1 : gRI x1) (hr2 : gRI x2) (hf : fX9_put g a0 x1 x2 M = some r) : gMT w n Rm l yX9_put cX9_put 3 (some .int) 3 106 0 0 [.ref (w.1 + a0), .int (gi x1), .int (gi x2)] M (.inr (some (.int (gi r.1)))) r.2 (gRI r.1) := by
  unfold fX9_put at hf
  refine gMT.of hl9 (by decide +kernel) ((Nat.le_of_ble_eq_true rfl)) ?_
  intro p e s m below meth c hM hH ls hl
  have hM : gMC w p l s m ([.ref (w.1 + a0), .int (gi x1), .int (gi x2)] : List Value).toArray meth c cX9_put 3 RX9 (some .int) := hM
  have hl : lv_has ls 3 [(0, .ref (w.1 + a0)), (1, .int (gi x1)), (2, .int (gi x2))] := hl
  refine lv_aload_n hM.fx.1 hM.fx.2.1 dX9_put_0 rfl (lv_at hl 0 rfl) ?_
  refine lv_aload_n hM.fx.1 hM.fx.2.1 dX9_put_1 rfl (lv_at hl 0 rfl) ?_
  refine lv_iload_n hM.fx.1 hM.fx.2.1 dX9_put_2 rfl (lv_at hl 1 rfl) ?_
  obtain ⟨x_2, ex_2, hf⟩ := gbd hf
  refine r_go1 hH rfl (r_runV (As := [.int (gi x1)]) hM hH cv_X9_322 (mX9_isStack hLC hM.ns hg0 hr1 ex_2) (hLC.in hg0 (by decide)) (by decide) rfl rfl rfl hl.1 rfl (Nat.le_of_ble_eq_true rfl) ⟨(Nat.le_of_ble_eq_true rfl), (Nat.le_of_ble_eq_true rfl)⟩ ⟨(Nat.le_of_ble_eq_true rfl), (Nat.le_of_ble_eq_true rfl)⟩ dX9_put_3) (fun hp_1 H locs hH => ?_)
  refine r_if_ne (tgt := 13) hM.fx (gz_r hp_1) dX9_put_6 (by decide) (fun h_3 => ?_) (fun h_3 => ?_)
  · have hf := gneg' h_3 hf
    refine lv_iload_n hM.fx.1 hM.fx.2.1 dX9_put_13 rfl (lv_at hl 2 rfl) ?_
    refine r_ldcw (x := -999999) hM.fx gw_1688 (by decide) dX9_put_14 ?_
    refine r_ldc (x := 999999) hM.fx gw_1415 (by decide) dX9_put_17 ?_
    obtain ⟨x_5, ex_5, hf⟩ := gbd hf
    refine r_go1 hH rfl (r_runS (As := [.int (gi x2), .int (gi ((-999999))), .int (gi 999999)]) hM hH cs_X9_56 (mX9_isIn hLC hM.ns hr2 (gcR (k := -999999) (by decide)) (gcR (k := 999999) (by decide)) ex_5) rfl hl.1 rfl (Nat.le_of_ble_eq_true rfl) ⟨(Nat.le_of_ble_eq_true rfl), (Nat.le_of_ble_eq_true rfl)⟩ ⟨(Nat.le_of_ble_eq_true rfl), (Nat.le_of_ble_eq_true rfl)⟩ dX9_put_19) (fun hp_4 H locs hH => ?_)
    refine r_if_eq (tgt := 29) hM.fx (gz_r hp_4) dX9_put_22 (by decide) (fun h_6 => ?_) (fun h_6 => ?_)
    · have hf := gpos h_6 hf
      refine lv_iconst (v := gi (2)) hM.fx.1 hM.fx.2.1 dX9_put_29 rfl ?_
      exact wX9_put_30 hLC hM   _ _ _ _ _ _ _ hg0 hr1 hr2 hg0 (gcR (k := 2) (by decide)) hf _ _ _ hH hl
    · have hf := gneg' h_6 hf
      refine lv_iconst (v := gi (0)) hM.fx.1 hM.fx.2.1 dX9_put_25 rfl ?_
      refine lv_goto (tgt := 30) hM.fx.1 hM.fx.2.1 dX9_put_26 (by decide) ?_
      exact wX9_put_30 hLC hM   _ _ _ _ _ _ _ hg0 hr1 hr2 hg0 (gcR (k := 0) (by decide)) hf _ _ _ hH hl
  · have hf := gpos h_3 hf
    refine lv_iconst (v := gi (1)) hM.fx.1 hM.fx.2.1 dX9_put_9 rfl ?_
    refine lv_goto (tgt := 30) hM.fx.1 hM.fx.2.1 dX9_put_10 (by decide) ?_
    exact wX9_put_30 hLC hM   _ _ _ _ _ _ _ hg0 hr1 hr2 hg0 (gcR (k := 1) (by decide)) hf _ _ _ hH hl
def fX9_hand_22 (g : Nat → Nat)  (a0 : Nat) (x1 : Int) (x2 : Int) (as0 : Nat) (xs1 : Int) (M : gMem) : Option (Int × gMem) :=
  gst (gup M as0 7 xs1) fun M_1 => if M_1 a0 7 ≤ 0 then ((fX9_onSlot g a0 x1 M_1).bind fun x_5 => if x_5 = (-1) then (some ((-12), M_1)) else ((fX9_inHand g a0 x2 M_1).bind fun x_8 => if x_8 = (-1) then ((fX9_keeps g a0 (a0 + 1) M_1).bind fun M_11 => (fX9_puts g a0 x_5 2 x2 M_11).bind fun M_13 => (fX9_puts g a0 x_5 3 ((-1)) M_13).bind fun M_15 => some (x_5, M_15)) else (some ((-13), M_1)))) else (some (0, M_1))
set_option maxHeartbeats 4000000 in
set_option maxRecDepth 100000 in
theorem wX9_hand_22 {w : gW} {n : Nat} {Rm : Nat → Nat → Nat} {g : Nat → Nat} (hLC : gLC g n Rm) {p : Program} {l : Launch} {e : Env} {s : State} {m : MethodId} {args : Array Value} {below : List Frame} {meth : Method} {c : Code} (hM : gMC w p l s m args meth c cX9_hand 4 RX9 (some .int))  : ∀ (a0 : Nat) (x1 : Int) (x2 : Int) (as0 : Nat) (xs1 : Int) (M : gMem) (r : (Int × gMem)) (hg0 : g a0 = 9) (hr1 : gRI x1) (hr2 : gRI x2) (hgs0 : g as0 = 9) (hrs1 : gRI xs1) (hf : fX9_hand_22 g a0 x1 x2 as0 xs1 M = some r) (H : Heap) (locs : List Loc) (ls : Array Slot) (hH : gH w n Rm M s H locs) (hl : lv_has ls 4 [(0, .ref (w.1 + a0)), (1, .int (gi x1)), (2, .int (gi x2))]), W p l e { frames := 3, cells := 0, slots := 0, locals := 106 } s m args below meth c H locs 0 0 (gQ w n Rm below args s 0 0 (.inr (some (.int (gi r.1)))) r.2 (gRI r.1)) (F0 m 22 ls [.int (gi xs1), .ref (w.1 + as0)]) := by
  intro a0 x1 x2 as0 xs1 M r hg0 hr1 hr2 hgs0 hrs1 hf H locs ls hH hl
  unfold fX9_hand_22 at hf
  refine r_putI hM.fx hM.kf hH fp_X9_46 (hLC.in hgs0 (by decide)) hrs1 dX9_hand_22 (fun H locs hH => ?_)
  obtain ⟨M_1, eM_1, hf⟩ := gst_s hf
  rw [← eM_1] at hH
  refine lv_aload_n hM.fx.1 hM.fx.2.1 dX9_hand_25 rfl (lv_at hl 0 rfl) ?_
  refine r_getI hM.fx hM.kf hH fl_X9_46 (hLC.in hg0 (by decide)) dX9_hand_26 ?_
  have hr_2 := hH.2.2.i (hLC.in hg0 (by decide)).2.2 (by decide : glg 9 7 = false)
  refine r_if_le (tgt := 34) hM.fx hr_2 dX9_hand_29 (by decide) (fun h_3 => ?_) (fun h_3 => ?_)
  · have hf := gpos h_3 hf
    refine lv_aload_n hM.fx.1 hM.fx.2.1 dX9_hand_34 rfl (lv_at hl 0 rfl) ?_
    refine lv_iload_n hM.fx.1 hM.fx.2.1 dX9_hand_35 rfl (lv_at hl 1 rfl) ?_
    obtain ⟨x_5, ex_5, hf⟩ := gbd hf
    refine r_go1 hH rfl (r_runV (As := [.int (gi x1)]) hM hH cv_X9_216 (mX9_onSlot hLC hM.ns hg0 hr1 ex_5) (hLC.in hg0 (by decide)) (by decide) rfl rfl rfl hl.1 rfl (Nat.le_of_ble_eq_true rfl) ⟨(Nat.le_of_ble_eq_true rfl), (Nat.le_of_ble_eq_true rfl)⟩ ⟨(Nat.le_of_ble_eq_true rfl), (Nat.le_of_ble_eq_true rfl)⟩ dX9_hand_36) (fun hp_4 H locs hH => ?_)
    refine lv_istore_n (lv' := [(3, .int (gi x_5)), (0, .ref (w.1 + a0)), (1, .int (gi x1)), (2, .int (gi x2))]) hM.fx.1 hM.fx.2.1 dX9_hand_39 rfl hl (by decide) rfl (fun ls hl => ?_)
    refine lv_iload_n hM.fx.1 hM.fx.2.1 dX9_hand_40 rfl (lv_at hl 0 rfl) ?_
    refine lv_iconst (v := gi (-1)) hM.fx.1 hM.fx.2.1 dX9_hand_41 rfl ?_
    refine r_icmp_ne (tgt := 48) hM.fx hp_4 (gcR (k := -1) (by decide)) dX9_hand_42 (by decide) (fun h_6 => ?_) (fun h_6 => ?_)
    · have hf := gneg' h_6 hf
      refine lv_aload_n hM.fx.1 hM.fx.2.1 dX9_hand_48 rfl (lv_at hl 1 rfl) ?_
      refine lv_iload_n hM.fx.1 hM.fx.2.1 dX9_hand_49 rfl (lv_at hl 3 rfl) ?_
      obtain ⟨x_8, ex_8, hf⟩ := gbd hf
      refine r_go1 hH rfl (r_runV (As := [.int (gi x2)]) hM hH cv_X9_212 (mX9_inHand hLC hM.ns hg0 hr2 ex_8) (hLC.in hg0 (by decide)) (by decide) rfl rfl rfl hl.1 rfl (Nat.le_of_ble_eq_true rfl) ⟨(Nat.le_of_ble_eq_true rfl), (Nat.le_of_ble_eq_true rfl)⟩ ⟨(Nat.le_of_ble_eq_true rfl), (Nat.le_of_ble_eq_true rfl)⟩ dX9_hand_50) (fun hp_7 H locs hH => ?_)
      refine lv_iconst (v := gi (-1)) hM.fx.1 hM.fx.2.1 dX9_hand_53 rfl ?_
      refine r_icmp_eq (tgt := 60) hM.fx hp_7 (gcR (k := -1) (by decide)) dX9_hand_54 (by decide) (fun h_9 => ?_) (fun h_9 => ?_)
      · have hf := gpos h_9 hf
        refine lv_aload_n hM.fx.1 hM.fx.2.1 dX9_hand_60 rfl (lv_at hl 1 rfl) ?_
        refine lv_aload_n hM.fx.1 hM.fx.2.1 dX9_hand_61 rfl (lv_at hl 1 rfl) ?_
        refine r_getR hM.fx hM.kf hH hLC fl_X9_7 hg0 gch_9_0 dX9_hand_62 ?_
        obtain ⟨M_11, eM_11, hf⟩ := gbd hf
        refine r_go0 hH rfl (r_runV (As := [.ref (w.1 + (a0 + 1))]) hM hH cv_X9_60 (mX9_keeps hLC hM.ns hg0 (by rw [(hLC.ch hg0 (by decide) gch_9_0)]; exact (⟨by decide, by decide⟩ : gAr 19056 0)) eM_11) (hLC.in hg0 (by decide)) (by decide) rfl rfl rfl hl.1 rfl (Nat.le_of_ble_eq_true rfl) ⟨(Nat.le_of_ble_eq_true rfl), (Nat.le_of_ble_eq_true rfl)⟩ ⟨(Nat.le_of_ble_eq_true rfl), (Nat.le_of_ble_eq_true rfl)⟩ dX9_hand_65) (fun hp_10 H locs hH => ?_)
        refine lv_aload_n hM.fx.1 hM.fx.2.1 dX9_hand_68 rfl (lv_at hl 1 rfl) ?_
        refine lv_iload_n hM.fx.1 hM.fx.2.1 dX9_hand_69 rfl (lv_at hl 0 rfl) ?_
        refine lv_iconst (v := gi (2)) hM.fx.1 hM.fx.2.1 dX9_hand_70 rfl ?_
        refine lv_iload_n hM.fx.1 hM.fx.2.1 dX9_hand_71 rfl (lv_at hl 3 rfl) ?_
        obtain ⟨M_13, eM_13, hf⟩ := gbd hf
        refine r_go0 hH rfl (r_runV (As := [.int (gi x_5), .int (gi 2), .int (gi x2)]) hM hH cv_X9_219 (mX9_puts hLC hM.ns hg0 hp_4 (gcR (k := 2) (by decide)) hr2 eM_13) (hLC.in hg0 (by decide)) (by decide) rfl rfl rfl hl.1 rfl (Nat.le_of_ble_eq_true rfl) ⟨(Nat.le_of_ble_eq_true rfl), (Nat.le_of_ble_eq_true rfl)⟩ ⟨(Nat.le_of_ble_eq_true rfl), (Nat.le_of_ble_eq_true rfl)⟩ dX9_hand_72) (fun hp_12 H locs hH => ?_)
        refine lv_aload_n hM.fx.1 hM.fx.2.1 dX9_hand_75 rfl (lv_at hl 1 rfl) ?_
        refine lv_iload_n hM.fx.1 hM.fx.2.1 dX9_hand_76 rfl (lv_at hl 0 rfl) ?_
        refine lv_iconst (v := gi (3)) hM.fx.1 hM.fx.2.1 dX9_hand_77 rfl ?_
        refine lv_iconst (v := gi (-1)) hM.fx.1 hM.fx.2.1 dX9_hand_78 rfl ?_
        obtain ⟨M_15, eM_15, hf⟩ := gbd hf
        refine r_go0 hH rfl (r_runV (As := [.int (gi x_5), .int (gi 3), .int (gi ((-1)))]) hM hH cv_X9_219 (mX9_puts hLC hM.ns hg0 hp_4 (gcR (k := 3) (by decide)) (gcR (k := -1) (by decide)) eM_15) (hLC.in hg0 (by decide)) (by decide) rfl rfl rfl hl.1 rfl (Nat.le_of_ble_eq_true rfl) ⟨(Nat.le_of_ble_eq_true rfl), (Nat.le_of_ble_eq_true rfl)⟩ ⟨(Nat.le_of_ble_eq_true rfl), (Nat.le_of_ble_eq_true rfl)⟩ dX9_hand_79) (fun hp_14 H locs hH => ?_)
        refine lv_iload_n hM.fx.1 hM.fx.2.1 dX9_hand_82 rfl (lv_at hl 0 rfl) ?_
        obtain rfl := Option.some.inj hf
        exact r_iret hM hH hp_4 ⟨(Nat.le_of_ble_eq_true rfl), (Nat.le_of_ble_eq_true rfl)⟩ dX9_hand_83
      · have hf := gneg' h_9 hf
        refine lv_bipush (v := gi (-13)) hM.fx.1 hM.fx.2.1 dX9_hand_57 (by decide) ?_
        obtain rfl := Option.some.inj hf
        exact r_iret hM hH (gcR (k := -13) (by decide)) ⟨(Nat.le_of_ble_eq_true rfl), (Nat.le_of_ble_eq_true rfl)⟩ dX9_hand_59
    · have hf := gpos h_6 hf
      refine lv_bipush (v := gi (-12)) hM.fx.1 hM.fx.2.1 dX9_hand_45 (by decide) ?_
      obtain rfl := Option.some.inj hf
      exact r_iret hM hH (gcR (k := -12) (by decide)) ⟨(Nat.le_of_ble_eq_true rfl), (Nat.le_of_ble_eq_true rfl)⟩ dX9_hand_47
  · have hf := gneg' h_3 hf
    refine lv_iconst (v := gi (0)) hM.fx.1 hM.fx.2.1 dX9_hand_32 rfl ?_
    obtain rfl := Option.some.inj hf
    exact r_iret hM hH (gcR (k := 0) (by decide)) ⟨(Nat.le_of_ble_eq_true rfl), (Nat.le_of_ble_eq_true rfl)⟩ dX9_hand_33
def fX9_hand_21 (g : Nat → Nat)  (a0 : Nat) (x1 : Int) (x2 : Int) (as0 : Nat) (M : gMem) : Option (Int × gMem) :=
  fX9_hand_22 g a0 x1 x2 as0 1 M
set_option maxHeartbeats 4000000 in
set_option maxRecDepth 100000 in
theorem wX9_hand_21 {w : gW} {n : Nat} {Rm : Nat → Nat → Nat} {g : Nat → Nat} (hLC : gLC g n Rm) {p : Program} {l : Launch} {e : Env} {s : State} {m : MethodId} {args : Array Value} {below : List Frame} {meth : Method} {c : Code} (hM : gMC w p l s m args meth c cX9_hand 4 RX9 (some .int))  : ∀ (a0 : Nat) (x1 : Int) (x2 : Int) (as0 : Nat) (M : gMem) (r : (Int × gMem)) (hg0 : g a0 = 9) (hr1 : gRI x1) (hr2 : gRI x2) (hgs0 : g as0 = 9) (hf : fX9_hand_21 g a0 x1 x2 as0 M = some r) (H : Heap) (locs : List Loc) (ls : Array Slot) (hH : gH w n Rm M s H locs) (hl : lv_has ls 4 [(0, .ref (w.1 + a0)), (1, .int (gi x1)), (2, .int (gi x2))]), W p l e { frames := 3, cells := 0, slots := 0, locals := 106 } s m args below meth c H locs 0 0 (gQ w n Rm below args s 0 0 (.inr (some (.int (gi r.1)))) r.2 (gRI r.1)) (F0 m 21 ls [.ref (w.1 + as0)]) := by
  intro a0 x1 x2 as0 M r hg0 hr1 hr2 hgs0 hf H locs ls hH hl
  unfold fX9_hand_21 at hf
  refine lv_iconst (v := gi (1)) hM.fx.1 hM.fx.2.1 dX9_hand_21 rfl ?_
  exact wX9_hand_22 hLC hM   _ _ _ _ _ _ _ hg0 hr1 hr2 hgs0 (gcR (k := 1) (by decide)) hf _ _ _ hH hl
def fX9_hand (g : Nat → Nat) (a0 : Nat) (x1 : Int) (x2 : Int) (M : gMem) : Option (Int × gMem) :=
  (fX9_isSlot g a0 x1 M).bind fun x_2 => if x_2 = 0 then (fX9_hand_21 g a0 x1 x2 a0 M) else ((fX9_isProcess g a0 x2 M).bind fun x_5 => if x_5 = 0 then (fX9_hand_21 g a0 x1 x2 a0 M) else (fX9_hand_22 g a0 x1 x2 a0 0 M))
set_option maxHeartbeats 4000000 in
set_option maxRecDepth 100000 in
theorem mX9_hand {w : gW} {n : Nat} {Rm : Nat → Nat → Nat} {g : Nat → Nat} (hLC : gLC g n Rm) {l : Launch} (hl9 : l.stackTraces = false) {a0 : Nat} {x1 : Int} {x2 : Int} {M : gMem} {r : (Int × gMem)} (hg0 : g a0 = 9) (hr1 : gRI x1) (hr2 : gRI x2) (hf : fX9_hand g a0 x1 x2 M = some r) : gMT w n Rm l yX9_hand cX9_hand 4 (some .int) 3 106 0 0 [.ref (w.1 + a0), .int (gi x1), .int (gi x2)] M (.inr (some (.int (gi r.1)))) r.2 (gRI r.1) := by
  unfold fX9_hand at hf
  refine gMT.of hl9 (by decide +kernel) ((Nat.le_of_ble_eq_true rfl)) ?_
  intro p e s m below meth c hM hH ls hl
  have hM : gMC w p l s m ([.ref (w.1 + a0), .int (gi x1), .int (gi x2)] : List Value).toArray meth c cX9_hand 4 RX9 (some .int) := hM
  have hl : lv_has ls 4 [(0, .ref (w.1 + a0)), (1, .int (gi x1)), (2, .int (gi x2))] := hl
  refine lv_aload_n hM.fx.1 hM.fx.2.1 dX9_hand_0 rfl (lv_at hl 0 rfl) ?_
  refine lv_aload_n hM.fx.1 hM.fx.2.1 dX9_hand_1 rfl (lv_at hl 0 rfl) ?_
  refine lv_iload_n hM.fx.1 hM.fx.2.1 dX9_hand_2 rfl (lv_at hl 1 rfl) ?_
  obtain ⟨x_2, ex_2, hf⟩ := gbd hf
  refine r_go1 hH rfl (r_runV (As := [.int (gi x1)]) hM hH cv_X9_326 (mX9_isSlot hLC hM.ns hg0 hr1 ex_2) (hLC.in hg0 (by decide)) (by decide) rfl rfl rfl hl.1 rfl (Nat.le_of_ble_eq_true rfl) ⟨(Nat.le_of_ble_eq_true rfl), (Nat.le_of_ble_eq_true rfl)⟩ ⟨(Nat.le_of_ble_eq_true rfl), (Nat.le_of_ble_eq_true rfl)⟩ dX9_hand_3) (fun hp_1 H locs hH => ?_)
  refine r_if_eq (tgt := 21) hM.fx (gz_r hp_1) dX9_hand_6 (by decide) (fun h_3 => ?_) (fun h_3 => ?_)
  · have hf := gpos h_3 hf
    exact wX9_hand_21 hLC hM   _ _ _ _ _ _ hg0 hr1 hr2 hg0 hf _ _ _ hH hl
  · have hf := gneg' h_3 hf
    refine lv_aload_n hM.fx.1 hM.fx.2.1 dX9_hand_9 rfl (lv_at hl 0 rfl) ?_
    refine lv_iload_n hM.fx.1 hM.fx.2.1 dX9_hand_10 rfl (lv_at hl 2 rfl) ?_
    obtain ⟨x_5, ex_5, hf⟩ := gbd hf
    refine r_go1 hH rfl (r_runV (As := [.int (gi x2)]) hM hH cv_X9_319 (mX9_isProcess hLC hM.ns hg0 hr2 ex_5) (hLC.in hg0 (by decide)) (by decide) rfl rfl rfl hl.1 rfl (Nat.le_of_ble_eq_true rfl) ⟨(Nat.le_of_ble_eq_true rfl), (Nat.le_of_ble_eq_true rfl)⟩ ⟨(Nat.le_of_ble_eq_true rfl), (Nat.le_of_ble_eq_true rfl)⟩ dX9_hand_11) (fun hp_4 H locs hH => ?_)
    refine r_if_eq (tgt := 21) hM.fx (gz_r hp_4) dX9_hand_14 (by decide) (fun h_6 => ?_) (fun h_6 => ?_)
    · have hf := gpos h_6 hf
      exact wX9_hand_21 hLC hM   _ _ _ _ _ _ hg0 hr1 hr2 hg0 hf _ _ _ hH hl
    · have hf := gneg' h_6 hf
      refine lv_iconst (v := gi (0)) hM.fx.1 hM.fx.2.1 dX9_hand_17 rfl ?_
      refine lv_goto (tgt := 22) hM.fx.1 hM.fx.2.1 dX9_hand_18 (by decide) ?_
      exact wX9_hand_22 hLC hM   _ _ _ _ _ _ _ hg0 hr1 hr2 hg0 (gcR (k := 0) (by decide)) hf _ _ _ hH hl
def fX9_kill_85 (g : Nat → Nat)  (a0 : Nat) (x2 : Int) (x3 : Int) (M : gMem) : Option (Int × gMem) :=
  if x2 = (-1) then (some ((-1), M)) else (if (0 : Int) ≤ 0 ∧ (0 : Int) < 1190 then if x3 = M (a0 + 1) (0 : Int).toNat then (some ((-1), M)) else ((fX9_puts g a0 x2 2 ((-1)) M).bind fun M_6 => (fX9_puts g a0 x2 3 x3 M_6).bind fun M_8 => some (x3, M_8)) else none)
set_option maxHeartbeats 4000000 in
set_option maxRecDepth 100000 in
theorem wX9_kill_85 {w : gW} {n : Nat} {Rm : Nat → Nat → Nat} {g : Nat → Nat} (hLC : gLC g n Rm) {p : Program} {l : Launch} {e : Env} {s : State} {m : MethodId} {args : Array Value} {below : List Frame} {meth : Method} {c : Code} (hM : gMC w p l s m args meth c cX9_kill 4 RX9 (some .int))  : ∀ (a0 : Nat) (x2 : Int) (x3 : Int) (M : gMem) (r : (Int × gMem)) (hg0 : g a0 = 9) (hr2 : gRI x2) (hr3 : gRI x3) (hf : fX9_kill_85 g a0 x2 x3 M = some r) (H : Heap) (locs : List Loc) (ls : Array Slot) (hH : gH w n Rm M s H locs) (hl : lv_has ls 4 [(0, .ref (w.1 + a0)), (2, .int (gi x2)), (3, .int (gi x3))]), W p l e { frames := 3, cells := 0, slots := 0, locals := 106 } s m args below meth c H locs 0 0 (gQ w n Rm below args s 0 0 (.inr (some (.int (gi r.1)))) r.2 (gRI r.1)) (F0 m 85 ls []) := by
  intro a0 x2 x3 M r hg0 hr2 hr3 hf H locs ls hH hl
  unfold fX9_kill_85 at hf
  refine lv_iload_n hM.fx.1 hM.fx.2.1 dX9_kill_85 rfl (lv_at hl 1 rfl) ?_
  refine lv_iconst (v := gi (-1)) hM.fx.1 hM.fx.2.1 dX9_kill_86 rfl ?_
  refine r_icmp_eq (tgt := 100) hM.fx hr2 (gcR (k := -1) (by decide)) dX9_kill_87 (by decide) (fun h_1 => ?_) (fun h_1 => ?_)
  · have hf := gpos h_1 hf
    refine lv_iconst (v := gi (-1)) hM.fx.1 hM.fx.2.1 dX9_kill_100 rfl ?_
    obtain rfl := Option.some.inj hf
    exact r_iret hM hH (gcR (k := -1) (by decide)) ⟨(Nat.le_of_ble_eq_true rfl), (Nat.le_of_ble_eq_true rfl)⟩ dX9_kill_101
  · have hf := gneg' h_1 hf
    refine lv_iload_n hM.fx.1 hM.fx.2.1 dX9_kill_90 rfl (lv_at hl 2 rfl) ?_
    refine lv_aload_n hM.fx.1 hM.fx.2.1 dX9_kill_91 rfl (lv_at hl 0 rfl) ?_
    refine r_getR hM.fx hM.kf hH hLC fl_X9_7 hg0 gch_9_0 dX9_kill_92 ?_
    refine lv_iconst (v := gi (0)) hM.fx.1 hM.fx.2.1 dX9_kill_95 rfl ?_
    obtain ⟨g_2, hf⟩ := gif hf
    refine r_iald hM.fx hM.kf hH (hLC.in (hLC.ch hg0 (by decide) gch_9_0) (by decide)) (⟨by decide, by decide⟩ : gAr 19056 0) (gcR (k := 0) (by decide)) g_2 dX9_kill_96 ?_
    have hr_3 := hH.2.2.i (k := (0 : Int).toNat) (hLC.in (hLC.ch hg0 (by decide) gch_9_0) (by decide)).2.2 (glg_a (⟨by decide, by decide⟩ : gAr 19056 0))
    refine r_icmp_ne (tgt := 102) hM.fx hr3 hr_3 dX9_kill_97 (by decide) (fun h_4 => ?_) (fun h_4 => ?_)
    · have hf := gneg' h_4 hf
      refine lv_aload_n hM.fx.1 hM.fx.2.1 dX9_kill_102 rfl (lv_at hl 0 rfl) ?_
      refine lv_iload_n hM.fx.1 hM.fx.2.1 dX9_kill_103 rfl (lv_at hl 1 rfl) ?_
      refine lv_iconst (v := gi (2)) hM.fx.1 hM.fx.2.1 dX9_kill_104 rfl ?_
      refine lv_iconst (v := gi (-1)) hM.fx.1 hM.fx.2.1 dX9_kill_105 rfl ?_
      obtain ⟨M_6, eM_6, hf⟩ := gbd hf
      refine r_go0 hH rfl (r_runV (As := [.int (gi x2), .int (gi 2), .int (gi ((-1)))]) hM hH cv_X9_219 (mX9_puts hLC hM.ns hg0 hr2 (gcR (k := 2) (by decide)) (gcR (k := -1) (by decide)) eM_6) (hLC.in hg0 (by decide)) (by decide) rfl rfl rfl hl.1 rfl (Nat.le_of_ble_eq_true rfl) ⟨(Nat.le_of_ble_eq_true rfl), (Nat.le_of_ble_eq_true rfl)⟩ ⟨(Nat.le_of_ble_eq_true rfl), (Nat.le_of_ble_eq_true rfl)⟩ dX9_kill_106) (fun hp_5 H locs hH => ?_)
      refine lv_aload_n hM.fx.1 hM.fx.2.1 dX9_kill_109 rfl (lv_at hl 0 rfl) ?_
      refine lv_iload_n hM.fx.1 hM.fx.2.1 dX9_kill_110 rfl (lv_at hl 1 rfl) ?_
      refine lv_iconst (v := gi (3)) hM.fx.1 hM.fx.2.1 dX9_kill_111 rfl ?_
      refine lv_iload_n hM.fx.1 hM.fx.2.1 dX9_kill_112 rfl (lv_at hl 2 rfl) ?_
      obtain ⟨M_8, eM_8, hf⟩ := gbd hf
      refine r_go0 hH rfl (r_runV (As := [.int (gi x2), .int (gi 3), .int (gi x3)]) hM hH cv_X9_219 (mX9_puts hLC hM.ns hg0 hr2 (gcR (k := 3) (by decide)) hr3 eM_8) (hLC.in hg0 (by decide)) (by decide) rfl rfl rfl hl.1 rfl (Nat.le_of_ble_eq_true rfl) ⟨(Nat.le_of_ble_eq_true rfl), (Nat.le_of_ble_eq_true rfl)⟩ ⟨(Nat.le_of_ble_eq_true rfl), (Nat.le_of_ble_eq_true rfl)⟩ dX9_kill_113) (fun hp_7 H locs hH => ?_)
      refine lv_iload_n hM.fx.1 hM.fx.2.1 dX9_kill_116 rfl (lv_at hl 2 rfl) ?_
      obtain rfl := Option.some.inj hf
      exact r_iret hM hH hr3 ⟨(Nat.le_of_ble_eq_true rfl), (Nat.le_of_ble_eq_true rfl)⟩ dX9_kill_117
    · have hf := gpos h_4 hf
      refine lv_iconst (v := gi (-1)) hM.fx.1 hM.fx.2.1 dX9_kill_100 rfl ?_
      obtain rfl := Option.some.inj hf
      exact r_iret hM hH (gcR (k := -1) (by decide)) ⟨(Nat.le_of_ble_eq_true rfl), (Nat.le_of_ble_eq_true rfl)⟩ dX9_kill_101
def fX9_kill_60 (g : Nat → Nat)  : Nat → Nat → Int → Int → gMem → Option (Int × gMem)
  | 0, _, _, _, _ => none
  | fu + 1, a0, x2, x3, M => if (0 : Int) ≤ 0 ∧ (0 : Int) < 1190 then if M (a0 + 1) (0 : Int).toNat ≤ x3 then (fX9_kill_85 g a0 x2 x3 M) else ((fX9_onSlot g a0 x3 M).bind fun x_5 => if x_5 = (-1) then (fX9_kill_85 g a0 x2 x3 M) else (gst (gwi (x3 + 1)) fun x_7 => fX9_kill_60 g fu a0 x2 x_7 M)) else none
set_option maxHeartbeats 4000000 in
set_option maxRecDepth 100000 in
theorem wX9_kill_60 {w : gW} {n : Nat} {Rm : Nat → Nat → Nat} {g : Nat → Nat} (hLC : gLC g n Rm) {p : Program} {l : Launch} {e : Env} {s : State} {m : MethodId} {args : Array Value} {below : List Frame} {meth : Method} {c : Code} (hM : gMC w p l s m args meth c cX9_kill 4 RX9 (some .int))  : ∀ (fu : Nat), ∀ (a0 : Nat) (x2 : Int) (x3 : Int) (M : gMem) (r : (Int × gMem)) (hg0 : g a0 = 9) (hr2 : gRI x2) (hr3 : gRI x3) (hf : fX9_kill_60 g fu a0 x2 x3 M = some r) (H : Heap) (locs : List Loc) (ls : Array Slot) (hH : gH w n Rm M s H locs) (hl : lv_has ls 4 [(0, .ref (w.1 + a0)), (2, .int (gi x2)), (3, .int (gi x3))]), W p l e { frames := 3, cells := 0, slots := 0, locals := 106 } s m args below meth c H locs 0 0 (gQ w n Rm below args s 0 0 (.inr (some (.int (gi r.1)))) r.2 (gRI r.1)) (F0 m 60 ls []) := by
  intro fu
  induction fu with
  | zero =>
    intro a0 x2 x3 M r hg0 hr2 hr3 hf H locs ls hH hl
    exact absurd hf (by simp [fX9_kill_60])
  | succ fu ih =>
    intro a0 x2 x3 M r hg0 hr2 hr3 hf H locs ls hH hl
    unfold fX9_kill_60 at hf
    refine lv_iload_n hM.fx.1 hM.fx.2.1 dX9_kill_60 rfl (lv_at hl 2 rfl) ?_
    refine lv_aload_n hM.fx.1 hM.fx.2.1 dX9_kill_61 rfl (lv_at hl 0 rfl) ?_
    refine r_getR hM.fx hM.kf hH hLC fl_X9_7 hg0 gch_9_0 dX9_kill_62 ?_
    refine lv_iconst (v := gi (0)) hM.fx.1 hM.fx.2.1 dX9_kill_65 rfl ?_
    obtain ⟨g_1, hf⟩ := gif hf
    refine r_iald hM.fx hM.kf hH (hLC.in (hLC.ch hg0 (by decide) gch_9_0) (by decide)) (⟨by decide, by decide⟩ : gAr 19056 0) (gcR (k := 0) (by decide)) g_1 dX9_kill_66 ?_
    have hr_2 := hH.2.2.i (k := (0 : Int).toNat) (hLC.in (hLC.ch hg0 (by decide) gch_9_0) (by decide)).2.2 (glg_a (⟨by decide, by decide⟩ : gAr 19056 0))
    refine r_icmp_ge (tgt := 85) hM.fx hr3 hr_2 dX9_kill_67 (by decide) (fun h_3 => ?_) (fun h_3 => ?_)
    · have hf := gpos h_3 hf
      exact wX9_kill_85 hLC hM   _ _ _ _ _ hg0 hr2 hr3 hf _ _ _ hH hl
    · have hf := gneg' h_3 hf
      refine lv_aload_n hM.fx.1 hM.fx.2.1 dX9_kill_70 rfl (lv_at hl 0 rfl) ?_
      refine lv_iload_n hM.fx.1 hM.fx.2.1 dX9_kill_71 rfl (lv_at hl 2 rfl) ?_
      obtain ⟨x_5, ex_5, hf⟩ := gbd hf
      refine r_go1 hH rfl (r_runV (As := [.int (gi x3)]) hM hH cv_X9_216 (mX9_onSlot hLC hM.ns hg0 hr3 ex_5) (hLC.in hg0 (by decide)) (by decide) rfl rfl rfl hl.1 rfl (Nat.le_of_ble_eq_true rfl) ⟨(Nat.le_of_ble_eq_true rfl), (Nat.le_of_ble_eq_true rfl)⟩ ⟨(Nat.le_of_ble_eq_true rfl), (Nat.le_of_ble_eq_true rfl)⟩ dX9_kill_72) (fun hp_4 H locs hH => ?_)
      refine lv_iconst (v := gi (-1)) hM.fx.1 hM.fx.2.1 dX9_kill_75 rfl ?_
      refine r_icmp_eq (tgt := 85) hM.fx hp_4 (gcR (k := -1) (by decide)) dX9_kill_76 (by decide) (fun h_6 => ?_) (fun h_6 => ?_)
      · have hf := gpos h_6 hf
        exact wX9_kill_85 hLC hM   _ _ _ _ _ hg0 hr2 hr3 hf _ _ _ hH hl
      · have hf := gneg' h_6 hf
        obtain ⟨x_7, ex_7, hf⟩ := gst_s hf
        have hx_7 : gRI x_7 := by rw [ex_7]; exact gwi_r _
        refine r_iinc (lv' := [(3, .int (gi x_7)), (0, .ref (w.1 + a0)), (2, .int (gi x2))]) hM.fx dX9_kill_79 hl (k := 2) rfl (by decide) (by rw [ex_7]; rfl) (fun ls hl => ?_)
        refine lv_goto (tgt := 60) hM.fx.1 hM.fx.2.1 dX9_kill_82 (by decide) ?_
        exact ih _ _ _ _ _ hg0 hr2 hx_7 hf _ _ _ hH (lv_sub hl [1, 2, 0] rfl)
def fX9_kill_14 (g : Nat → Nat)  (a0 : Nat) (x1 : Int) (as0 : Nat) (xs1 : Int) (M : gMem) : Option (Int × gMem) :=
  gst (gup M as0 7 xs1) fun M_1 => if M_1 a0 7 ≤ 0 then ((fX9_isReady g a0 x1 M_1).bind fun x_5 => if x_5 = 0 then (some ((-14), M_1)) else ((fX9_keeps g a0 (a0 + 1) M_1).bind fun M_8 => (fX9_sets g a0 x1 0 1 M_8).bind fun M_10 => (fX9_inHand g a0 x1 M_10).bind fun x_12 => fX9_kill_60 g gF a0 x_12 0 M_10)) else (some (0, M_1))
set_option maxHeartbeats 4000000 in
set_option maxRecDepth 100000 in
theorem wX9_kill_14 {w : gW} {n : Nat} {Rm : Nat → Nat → Nat} {g : Nat → Nat} (hLC : gLC g n Rm) {p : Program} {l : Launch} {e : Env} {s : State} {m : MethodId} {args : Array Value} {below : List Frame} {meth : Method} {c : Code} (hM : gMC w p l s m args meth c cX9_kill 4 RX9 (some .int))  : ∀ (a0 : Nat) (x1 : Int) (as0 : Nat) (xs1 : Int) (M : gMem) (r : (Int × gMem)) (hg0 : g a0 = 9) (hr1 : gRI x1) (hgs0 : g as0 = 9) (hrs1 : gRI xs1) (hf : fX9_kill_14 g a0 x1 as0 xs1 M = some r) (H : Heap) (locs : List Loc) (ls : Array Slot) (hH : gH w n Rm M s H locs) (hl : lv_has ls 4 [(0, .ref (w.1 + a0)), (1, .int (gi x1))]), W p l e { frames := 3, cells := 0, slots := 0, locals := 106 } s m args below meth c H locs 0 0 (gQ w n Rm below args s 0 0 (.inr (some (.int (gi r.1)))) r.2 (gRI r.1)) (F0 m 14 ls [.int (gi xs1), .ref (w.1 + as0)]) := by
  intro a0 x1 as0 xs1 M r hg0 hr1 hgs0 hrs1 hf H locs ls hH hl
  unfold fX9_kill_14 at hf
  refine r_putI hM.fx hM.kf hH fp_X9_46 (hLC.in hgs0 (by decide)) hrs1 dX9_kill_14 (fun H locs hH => ?_)
  obtain ⟨M_1, eM_1, hf⟩ := gst_s hf
  rw [← eM_1] at hH
  refine lv_aload_n hM.fx.1 hM.fx.2.1 dX9_kill_17 rfl (lv_at hl 0 rfl) ?_
  refine r_getI hM.fx hM.kf hH fl_X9_46 (hLC.in hg0 (by decide)) dX9_kill_18 ?_
  have hr_2 := hH.2.2.i (hLC.in hg0 (by decide)).2.2 (by decide : glg 9 7 = false)
  refine r_if_le (tgt := 26) hM.fx hr_2 dX9_kill_21 (by decide) (fun h_3 => ?_) (fun h_3 => ?_)
  · have hf := gpos h_3 hf
    refine lv_aload_n hM.fx.1 hM.fx.2.1 dX9_kill_26 rfl (lv_at hl 0 rfl) ?_
    refine lv_iload_n hM.fx.1 hM.fx.2.1 dX9_kill_27 rfl (lv_at hl 1 rfl) ?_
    obtain ⟨x_5, ex_5, hf⟩ := gbd hf
    refine r_go1 hH rfl (r_runV (As := [.int (gi x1)]) hM hH cv_X9_252 (mX9_isReady hLC hM.ns hg0 hr1 ex_5) (hLC.in hg0 (by decide)) (by decide) rfl rfl rfl hl.1 rfl (Nat.le_of_ble_eq_true rfl) ⟨(Nat.le_of_ble_eq_true rfl), (Nat.le_of_ble_eq_true rfl)⟩ ⟨(Nat.le_of_ble_eq_true rfl), (Nat.le_of_ble_eq_true rfl)⟩ dX9_kill_28) (fun hp_4 H locs hH => ?_)
    refine r_if_ne (tgt := 37) hM.fx (gz_r hp_4) dX9_kill_31 (by decide) (fun h_6 => ?_) (fun h_6 => ?_)
    · have hf := gneg' h_6 hf
      refine lv_aload_n hM.fx.1 hM.fx.2.1 dX9_kill_37 rfl (lv_at hl 0 rfl) ?_
      refine lv_aload_n hM.fx.1 hM.fx.2.1 dX9_kill_38 rfl (lv_at hl 0 rfl) ?_
      refine r_getR hM.fx hM.kf hH hLC fl_X9_7 hg0 gch_9_0 dX9_kill_39 ?_
      obtain ⟨M_8, eM_8, hf⟩ := gbd hf
      refine r_go0 hH rfl (r_runV (As := [.ref (w.1 + (a0 + 1))]) hM hH cv_X9_60 (mX9_keeps hLC hM.ns hg0 (by rw [(hLC.ch hg0 (by decide) gch_9_0)]; exact (⟨by decide, by decide⟩ : gAr 19056 0)) eM_8) (hLC.in hg0 (by decide)) (by decide) rfl rfl rfl hl.1 rfl (Nat.le_of_ble_eq_true rfl) ⟨(Nat.le_of_ble_eq_true rfl), (Nat.le_of_ble_eq_true rfl)⟩ ⟨(Nat.le_of_ble_eq_true rfl), (Nat.le_of_ble_eq_true rfl)⟩ dX9_kill_42) (fun hp_7 H locs hH => ?_)
      refine lv_aload_n hM.fx.1 hM.fx.2.1 dX9_kill_45 rfl (lv_at hl 0 rfl) ?_
      refine lv_iload_n hM.fx.1 hM.fx.2.1 dX9_kill_46 rfl (lv_at hl 1 rfl) ?_
      refine lv_iconst (v := gi (0)) hM.fx.1 hM.fx.2.1 dX9_kill_47 rfl ?_
      refine lv_iconst (v := gi (1)) hM.fx.1 hM.fx.2.1 dX9_kill_48 rfl ?_
      obtain ⟨M_10, eM_10, hf⟩ := gbd hf
      refine r_go0 hH rfl (r_runV (As := [.int (gi x1), .int (gi 0), .int (gi 1)]) hM hH cv_X9_42 (mX9_sets hLC hM.ns hg0 hr1 (gcR (k := 0) (by decide)) (gcR (k := 1) (by decide)) eM_10) (hLC.in hg0 (by decide)) (by decide) rfl rfl rfl hl.1 rfl (Nat.le_of_ble_eq_true rfl) ⟨(Nat.le_of_ble_eq_true rfl), (Nat.le_of_ble_eq_true rfl)⟩ ⟨(Nat.le_of_ble_eq_true rfl), (Nat.le_of_ble_eq_true rfl)⟩ dX9_kill_49) (fun hp_9 H locs hH => ?_)
      refine lv_aload_n hM.fx.1 hM.fx.2.1 dX9_kill_52 rfl (lv_at hl 0 rfl) ?_
      refine lv_iload_n hM.fx.1 hM.fx.2.1 dX9_kill_53 rfl (lv_at hl 1 rfl) ?_
      obtain ⟨x_12, ex_12, hf⟩ := gbd hf
      refine r_go1 hH rfl (r_runV (As := [.int (gi x1)]) hM hH cv_X9_212 (mX9_inHand hLC hM.ns hg0 hr1 ex_12) (hLC.in hg0 (by decide)) (by decide) rfl rfl rfl hl.1 rfl (Nat.le_of_ble_eq_true rfl) ⟨(Nat.le_of_ble_eq_true rfl), (Nat.le_of_ble_eq_true rfl)⟩ ⟨(Nat.le_of_ble_eq_true rfl), (Nat.le_of_ble_eq_true rfl)⟩ dX9_kill_54) (fun hp_11 H locs hH => ?_)
      refine lv_istore_n (lv' := [(2, .int (gi x_12)), (0, .ref (w.1 + a0)), (1, .int (gi x1))]) hM.fx.1 hM.fx.2.1 dX9_kill_57 rfl hl (by decide) rfl (fun ls hl => ?_)
      refine lv_iconst (v := gi (0)) hM.fx.1 hM.fx.2.1 dX9_kill_58 rfl ?_
      refine lv_istore_n (lv' := [(3, .int (gi 0)), (2, .int (gi x_12)), (0, .ref (w.1 + a0)), (1, .int (gi x1))]) hM.fx.1 hM.fx.2.1 dX9_kill_59 rfl hl (by decide) rfl (fun ls hl => ?_)
      exact wX9_kill_60 hLC hM  gF _ _ _ _ _ hg0 hp_11 (gcR (k := 0) (by decide)) hf _ _ _ hH (lv_sub hl [2, 1, 0] rfl)
    · have hf := gpos h_6 hf
      refine lv_bipush (v := gi (-14)) hM.fx.1 hM.fx.2.1 dX9_kill_34 (by decide) ?_
      obtain rfl := Option.some.inj hf
      exact r_iret hM hH (gcR (k := -14) (by decide)) ⟨(Nat.le_of_ble_eq_true rfl), (Nat.le_of_ble_eq_true rfl)⟩ dX9_kill_36
  · have hf := gneg' h_3 hf
    refine lv_iconst (v := gi (0)) hM.fx.1 hM.fx.2.1 dX9_kill_24 rfl ?_
    obtain rfl := Option.some.inj hf
    exact r_iret hM hH (gcR (k := 0) (by decide)) ⟨(Nat.le_of_ble_eq_true rfl), (Nat.le_of_ble_eq_true rfl)⟩ dX9_kill_25
def fX9_kill (g : Nat → Nat) (a0 : Nat) (x1 : Int) (M : gMem) : Option (Int × gMem) :=
  (fX9_isProcess g a0 x1 M).bind fun x_2 => if x_2 = 0 then (fX9_kill_14 g a0 x1 a0 1 M) else (fX9_kill_14 g a0 x1 a0 0 M)
set_option maxHeartbeats 4000000 in
set_option maxRecDepth 100000 in
theorem mX9_kill {w : gW} {n : Nat} {Rm : Nat → Nat → Nat} {g : Nat → Nat} (hLC : gLC g n Rm) {l : Launch} (hl9 : l.stackTraces = false) {a0 : Nat} {x1 : Int} {M : gMem} {r : (Int × gMem)} (hg0 : g a0 = 9) (hr1 : gRI x1) (hf : fX9_kill g a0 x1 M = some r) : gMT w n Rm l yX9_kill cX9_kill 4 (some .int) 3 106 0 0 [.ref (w.1 + a0), .int (gi x1)] M (.inr (some (.int (gi r.1)))) r.2 (gRI r.1) := by
  unfold fX9_kill at hf
  refine gMT.of hl9 (by decide +kernel) ((Nat.le_of_ble_eq_true rfl)) ?_
  intro p e s m below meth c hM hH ls hl
  have hM : gMC w p l s m ([.ref (w.1 + a0), .int (gi x1)] : List Value).toArray meth c cX9_kill 4 RX9 (some .int) := hM
  have hl : lv_has ls 4 [(0, .ref (w.1 + a0)), (1, .int (gi x1))] := hl
  refine lv_aload_n hM.fx.1 hM.fx.2.1 dX9_kill_0 rfl (lv_at hl 0 rfl) ?_
  refine lv_aload_n hM.fx.1 hM.fx.2.1 dX9_kill_1 rfl (lv_at hl 0 rfl) ?_
  refine lv_iload_n hM.fx.1 hM.fx.2.1 dX9_kill_2 rfl (lv_at hl 1 rfl) ?_
  obtain ⟨x_2, ex_2, hf⟩ := gbd hf
  refine r_go1 hH rfl (r_runV (As := [.int (gi x1)]) hM hH cv_X9_319 (mX9_isProcess hLC hM.ns hg0 hr1 ex_2) (hLC.in hg0 (by decide)) (by decide) rfl rfl rfl hl.1 rfl (Nat.le_of_ble_eq_true rfl) ⟨(Nat.le_of_ble_eq_true rfl), (Nat.le_of_ble_eq_true rfl)⟩ ⟨(Nat.le_of_ble_eq_true rfl), (Nat.le_of_ble_eq_true rfl)⟩ dX9_kill_3) (fun hp_1 H locs hH => ?_)
  refine r_if_eq (tgt := 13) hM.fx (gz_r hp_1) dX9_kill_6 (by decide) (fun h_3 => ?_) (fun h_3 => ?_)
  · have hf := gpos h_3 hf
    refine lv_iconst (v := gi (1)) hM.fx.1 hM.fx.2.1 dX9_kill_13 rfl ?_
    exact wX9_kill_14 hLC hM   _ _ _ _ _ _ hg0 hr1 hg0 (gcR (k := 1) (by decide)) hf _ _ _ hH hl
  · have hf := gneg' h_3 hf
    refine lv_iconst (v := gi (0)) hM.fx.1 hM.fx.2.1 dX9_kill_9 rfl ?_
    refine lv_goto (tgt := 14) hM.fx.1 hM.fx.2.1 dX9_kill_10 (by decide) ?_
    exact wX9_kill_14 hLC hM   _ _ _ _ _ _ hg0 hr1 hg0 (gcR (k := 0) (by decide)) hf _ _ _ hH hl
def fX9_wake_14 (g : Nat → Nat)  (a0 : Nat) (x1 : Int) (as0 : Nat) (xs1 : Int) (M : gMem) : Option (Int × gMem) :=
  gst (gup M as0 7 xs1) fun M_1 => if M_1 a0 7 ≤ 0 then ((fX9_isReady g a0 x1 M_1).bind fun x_5 => if x_5 = 0 then ((fX9_keeps g a0 (a0 + 1) M_1).bind fun M_8 => (fX9_of g a0 x1 0 M_8).bind fun x_10 => (fX9_sets g a0 x1 0 0 M_8).bind fun M_12 => (fX9_sets g a0 x1 2 0 M_12).bind fun M_14 => (fX9_sets g a0 x1 1 0 M_14).bind fun M_16 => some (x_10, M_16)) else (some ((-15), M_1))) else (some (0, M_1))
set_option maxHeartbeats 4000000 in
set_option maxRecDepth 100000 in
theorem wX9_wake_14 {w : gW} {n : Nat} {Rm : Nat → Nat → Nat} {g : Nat → Nat} (hLC : gLC g n Rm) {p : Program} {l : Launch} {e : Env} {s : State} {m : MethodId} {args : Array Value} {below : List Frame} {meth : Method} {c : Code} (hM : gMC w p l s m args meth c cX9_wake 3 RX9 (some .int))  : ∀ (a0 : Nat) (x1 : Int) (as0 : Nat) (xs1 : Int) (M : gMem) (r : (Int × gMem)) (hg0 : g a0 = 9) (hr1 : gRI x1) (hgs0 : g as0 = 9) (hrs1 : gRI xs1) (hf : fX9_wake_14 g a0 x1 as0 xs1 M = some r) (H : Heap) (locs : List Loc) (ls : Array Slot) (hH : gH w n Rm M s H locs) (hl : lv_has ls 3 [(0, .ref (w.1 + a0)), (1, .int (gi x1))]), W p l e { frames := 3, cells := 0, slots := 0, locals := 106 } s m args below meth c H locs 0 0 (gQ w n Rm below args s 0 0 (.inr (some (.int (gi r.1)))) r.2 (gRI r.1)) (F0 m 14 ls [.int (gi xs1), .ref (w.1 + as0)]) := by
  intro a0 x1 as0 xs1 M r hg0 hr1 hgs0 hrs1 hf H locs ls hH hl
  unfold fX9_wake_14 at hf
  refine r_putI hM.fx hM.kf hH fp_X9_46 (hLC.in hgs0 (by decide)) hrs1 dX9_wake_14 (fun H locs hH => ?_)
  obtain ⟨M_1, eM_1, hf⟩ := gst_s hf
  rw [← eM_1] at hH
  refine lv_aload_n hM.fx.1 hM.fx.2.1 dX9_wake_17 rfl (lv_at hl 0 rfl) ?_
  refine r_getI hM.fx hM.kf hH fl_X9_46 (hLC.in hg0 (by decide)) dX9_wake_18 ?_
  have hr_2 := hH.2.2.i (hLC.in hg0 (by decide)).2.2 (by decide : glg 9 7 = false)
  refine r_if_le (tgt := 26) hM.fx hr_2 dX9_wake_21 (by decide) (fun h_3 => ?_) (fun h_3 => ?_)
  · have hf := gpos h_3 hf
    refine lv_aload_n hM.fx.1 hM.fx.2.1 dX9_wake_26 rfl (lv_at hl 0 rfl) ?_
    refine lv_iload_n hM.fx.1 hM.fx.2.1 dX9_wake_27 rfl (lv_at hl 1 rfl) ?_
    obtain ⟨x_5, ex_5, hf⟩ := gbd hf
    refine r_go1 hH rfl (r_runV (As := [.int (gi x1)]) hM hH cv_X9_252 (mX9_isReady hLC hM.ns hg0 hr1 ex_5) (hLC.in hg0 (by decide)) (by decide) rfl rfl rfl hl.1 rfl (Nat.le_of_ble_eq_true rfl) ⟨(Nat.le_of_ble_eq_true rfl), (Nat.le_of_ble_eq_true rfl)⟩ ⟨(Nat.le_of_ble_eq_true rfl), (Nat.le_of_ble_eq_true rfl)⟩ dX9_wake_28) (fun hp_4 H locs hH => ?_)
    refine r_if_eq (tgt := 37) hM.fx (gz_r hp_4) dX9_wake_31 (by decide) (fun h_6 => ?_) (fun h_6 => ?_)
    · have hf := gpos h_6 hf
      refine lv_aload_n hM.fx.1 hM.fx.2.1 dX9_wake_37 rfl (lv_at hl 0 rfl) ?_
      refine lv_aload_n hM.fx.1 hM.fx.2.1 dX9_wake_38 rfl (lv_at hl 0 rfl) ?_
      refine r_getR hM.fx hM.kf hH hLC fl_X9_7 hg0 gch_9_0 dX9_wake_39 ?_
      obtain ⟨M_8, eM_8, hf⟩ := gbd hf
      refine r_go0 hH rfl (r_runV (As := [.ref (w.1 + (a0 + 1))]) hM hH cv_X9_60 (mX9_keeps hLC hM.ns hg0 (by rw [(hLC.ch hg0 (by decide) gch_9_0)]; exact (⟨by decide, by decide⟩ : gAr 19056 0)) eM_8) (hLC.in hg0 (by decide)) (by decide) rfl rfl rfl hl.1 rfl (Nat.le_of_ble_eq_true rfl) ⟨(Nat.le_of_ble_eq_true rfl), (Nat.le_of_ble_eq_true rfl)⟩ ⟨(Nat.le_of_ble_eq_true rfl), (Nat.le_of_ble_eq_true rfl)⟩ dX9_wake_42) (fun hp_7 H locs hH => ?_)
      refine lv_aload_n hM.fx.1 hM.fx.2.1 dX9_wake_45 rfl (lv_at hl 0 rfl) ?_
      refine lv_iload_n hM.fx.1 hM.fx.2.1 dX9_wake_46 rfl (lv_at hl 1 rfl) ?_
      refine lv_iconst (v := gi (0)) hM.fx.1 hM.fx.2.1 dX9_wake_47 rfl ?_
      obtain ⟨x_10, ex_10, hf⟩ := gbd hf
      refine r_go1 hH rfl (r_runV (As := [.int (gi x1), .int (gi 0)]) hM hH cv_X9_135 (mX9_of hLC hM.ns hg0 hr1 (gcR (k := 0) (by decide)) ex_10) (hLC.in hg0 (by decide)) (by decide) rfl rfl rfl hl.1 rfl (Nat.le_of_ble_eq_true rfl) ⟨(Nat.le_of_ble_eq_true rfl), (Nat.le_of_ble_eq_true rfl)⟩ ⟨(Nat.le_of_ble_eq_true rfl), (Nat.le_of_ble_eq_true rfl)⟩ dX9_wake_48) (fun hp_9 H locs hH => ?_)
      refine lv_istore_n (lv' := [(2, .int (gi x_10)), (0, .ref (w.1 + a0)), (1, .int (gi x1))]) hM.fx.1 hM.fx.2.1 dX9_wake_51 rfl hl (by decide) rfl (fun ls hl => ?_)
      refine lv_aload_n hM.fx.1 hM.fx.2.1 dX9_wake_52 rfl (lv_at hl 1 rfl) ?_
      refine lv_iload_n hM.fx.1 hM.fx.2.1 dX9_wake_53 rfl (lv_at hl 2 rfl) ?_
      refine lv_iconst (v := gi (0)) hM.fx.1 hM.fx.2.1 dX9_wake_54 rfl ?_
      refine lv_iconst (v := gi (0)) hM.fx.1 hM.fx.2.1 dX9_wake_55 rfl ?_
      obtain ⟨M_12, eM_12, hf⟩ := gbd hf
      refine r_go0 hH rfl (r_runV (As := [.int (gi x1), .int (gi 0), .int (gi 0)]) hM hH cv_X9_42 (mX9_sets hLC hM.ns hg0 hr1 (gcR (k := 0) (by decide)) (gcR (k := 0) (by decide)) eM_12) (hLC.in hg0 (by decide)) (by decide) rfl rfl rfl hl.1 rfl (Nat.le_of_ble_eq_true rfl) ⟨(Nat.le_of_ble_eq_true rfl), (Nat.le_of_ble_eq_true rfl)⟩ ⟨(Nat.le_of_ble_eq_true rfl), (Nat.le_of_ble_eq_true rfl)⟩ dX9_wake_56) (fun hp_11 H locs hH => ?_)
      refine lv_aload_n hM.fx.1 hM.fx.2.1 dX9_wake_59 rfl (lv_at hl 1 rfl) ?_
      refine lv_iload_n hM.fx.1 hM.fx.2.1 dX9_wake_60 rfl (lv_at hl 2 rfl) ?_
      refine lv_iconst (v := gi (2)) hM.fx.1 hM.fx.2.1 dX9_wake_61 rfl ?_
      refine lv_iconst (v := gi (0)) hM.fx.1 hM.fx.2.1 dX9_wake_62 rfl ?_
      obtain ⟨M_14, eM_14, hf⟩ := gbd hf
      refine r_go0 hH rfl (r_runV (As := [.int (gi x1), .int (gi 2), .int (gi 0)]) hM hH cv_X9_42 (mX9_sets hLC hM.ns hg0 hr1 (gcR (k := 2) (by decide)) (gcR (k := 0) (by decide)) eM_14) (hLC.in hg0 (by decide)) (by decide) rfl rfl rfl hl.1 rfl (Nat.le_of_ble_eq_true rfl) ⟨(Nat.le_of_ble_eq_true rfl), (Nat.le_of_ble_eq_true rfl)⟩ ⟨(Nat.le_of_ble_eq_true rfl), (Nat.le_of_ble_eq_true rfl)⟩ dX9_wake_63) (fun hp_13 H locs hH => ?_)
      refine lv_aload_n hM.fx.1 hM.fx.2.1 dX9_wake_66 rfl (lv_at hl 1 rfl) ?_
      refine lv_iload_n hM.fx.1 hM.fx.2.1 dX9_wake_67 rfl (lv_at hl 2 rfl) ?_
      refine lv_iconst (v := gi (1)) hM.fx.1 hM.fx.2.1 dX9_wake_68 rfl ?_
      refine lv_iconst (v := gi (0)) hM.fx.1 hM.fx.2.1 dX9_wake_69 rfl ?_
      obtain ⟨M_16, eM_16, hf⟩ := gbd hf
      refine r_go0 hH rfl (r_runV (As := [.int (gi x1), .int (gi 1), .int (gi 0)]) hM hH cv_X9_42 (mX9_sets hLC hM.ns hg0 hr1 (gcR (k := 1) (by decide)) (gcR (k := 0) (by decide)) eM_16) (hLC.in hg0 (by decide)) (by decide) rfl rfl rfl hl.1 rfl (Nat.le_of_ble_eq_true rfl) ⟨(Nat.le_of_ble_eq_true rfl), (Nat.le_of_ble_eq_true rfl)⟩ ⟨(Nat.le_of_ble_eq_true rfl), (Nat.le_of_ble_eq_true rfl)⟩ dX9_wake_70) (fun hp_15 H locs hH => ?_)
      refine lv_iload_n hM.fx.1 hM.fx.2.1 dX9_wake_73 rfl (lv_at hl 0 rfl) ?_
      obtain rfl := Option.some.inj hf
      exact r_iret hM hH hp_9 ⟨(Nat.le_of_ble_eq_true rfl), (Nat.le_of_ble_eq_true rfl)⟩ dX9_wake_74
    · have hf := gneg' h_6 hf
      refine lv_bipush (v := gi (-15)) hM.fx.1 hM.fx.2.1 dX9_wake_34 (by decide) ?_
      obtain rfl := Option.some.inj hf
      exact r_iret hM hH (gcR (k := -15) (by decide)) ⟨(Nat.le_of_ble_eq_true rfl), (Nat.le_of_ble_eq_true rfl)⟩ dX9_wake_36
  · have hf := gneg' h_3 hf
    refine lv_iconst (v := gi (0)) hM.fx.1 hM.fx.2.1 dX9_wake_24 rfl ?_
    obtain rfl := Option.some.inj hf
    exact r_iret hM hH (gcR (k := 0) (by decide)) ⟨(Nat.le_of_ble_eq_true rfl), (Nat.le_of_ble_eq_true rfl)⟩ dX9_wake_25
def fX9_wake (g : Nat → Nat) (a0 : Nat) (x1 : Int) (M : gMem) : Option (Int × gMem) :=
  (fX9_isProcess g a0 x1 M).bind fun x_2 => if x_2 = 0 then (fX9_wake_14 g a0 x1 a0 1 M) else (fX9_wake_14 g a0 x1 a0 0 M)
set_option maxHeartbeats 4000000 in
set_option maxRecDepth 100000 in
theorem mX9_wake {w : gW} {n : Nat} {Rm : Nat → Nat → Nat} {g : Nat → Nat} (hLC : gLC g n Rm) {l : Launch} (hl9 : l.stackTraces = false) {a0 : Nat} {x1 : Int} {M : gMem} {r : (Int × gMem)} (hg0 : g a0 = 9) (hr1 : gRI x1) (hf : fX9_wake g a0 x1 M = some r) : gMT w n Rm l yX9_wake cX9_wake 3 (some .int) 3 106 0 0 [.ref (w.1 + a0), .int (gi x1)] M (.inr (some (.int (gi r.1)))) r.2 (gRI r.1) := by
  unfold fX9_wake at hf
  refine gMT.of hl9 (by decide +kernel) ((Nat.le_of_ble_eq_true rfl)) ?_
  intro p e s m below meth c hM hH ls hl
  have hM : gMC w p l s m ([.ref (w.1 + a0), .int (gi x1)] : List Value).toArray meth c cX9_wake 3 RX9 (some .int) := hM
  have hl : lv_has ls 3 [(0, .ref (w.1 + a0)), (1, .int (gi x1))] := hl
  refine lv_aload_n hM.fx.1 hM.fx.2.1 dX9_wake_0 rfl (lv_at hl 0 rfl) ?_
  refine lv_aload_n hM.fx.1 hM.fx.2.1 dX9_wake_1 rfl (lv_at hl 0 rfl) ?_
  refine lv_iload_n hM.fx.1 hM.fx.2.1 dX9_wake_2 rfl (lv_at hl 1 rfl) ?_
  obtain ⟨x_2, ex_2, hf⟩ := gbd hf
  refine r_go1 hH rfl (r_runV (As := [.int (gi x1)]) hM hH cv_X9_319 (mX9_isProcess hLC hM.ns hg0 hr1 ex_2) (hLC.in hg0 (by decide)) (by decide) rfl rfl rfl hl.1 rfl (Nat.le_of_ble_eq_true rfl) ⟨(Nat.le_of_ble_eq_true rfl), (Nat.le_of_ble_eq_true rfl)⟩ ⟨(Nat.le_of_ble_eq_true rfl), (Nat.le_of_ble_eq_true rfl)⟩ dX9_wake_3) (fun hp_1 H locs hH => ?_)
  refine r_if_eq (tgt := 13) hM.fx (gz_r hp_1) dX9_wake_6 (by decide) (fun h_3 => ?_) (fun h_3 => ?_)
  · have hf := gpos h_3 hf
    refine lv_iconst (v := gi (1)) hM.fx.1 hM.fx.2.1 dX9_wake_13 rfl ?_
    exact wX9_wake_14 hLC hM   _ _ _ _ _ _ hg0 hr1 hg0 (gcR (k := 1) (by decide)) hf _ _ _ hH hl
  · have hf := gneg' h_3 hf
    refine lv_iconst (v := gi (0)) hM.fx.1 hM.fx.2.1 dX9_wake_9 rfl ?_
    refine lv_goto (tgt := 14) hM.fx.1 hM.fx.2.1 dX9_wake_10 (by decide) ?_
    exact wX9_wake_14 hLC hM   _ _ _ _ _ _ hg0 hr1 hg0 (gcR (k := 0) (by decide)) hf _ _ _ hH hl
def fX9_writes (g : Nat → Nat) (a0 : Nat) (x1 : Int) (M : gMem) : Option gMem :=
  if (0 : Int) ≤ M a0 19 ∧ (M a0 19 : Int) < 2400 then gst (gup M (a0 + 8) (M a0 19).toNat x1) fun M_3 => gst (gup M_3 a0 19 (gwi (M_3 a0 19 + 1))) fun M_5 => some M_5 else none
set_option maxHeartbeats 4000000 in
set_option maxRecDepth 100000 in
theorem mX9_writes {w : gW} {n : Nat} {Rm : Nat → Nat → Nat} {g : Nat → Nat} (hLC : gLC g n Rm) {l : Launch} (hl9 : l.stackTraces = false) {a0 : Nat} {x1 : Int} {M : gMem} {r : gMem} (hg0 : g a0 = 9) (hr1 : gRI x1) (hf : fX9_writes g a0 x1 M = some r) : gMT w n Rm l yX9_writes cX9_writes 2 none 1 60 0 0 [.ref (w.1 + a0), .int (gi x1)] M (.inr none) r True := by
  unfold fX9_writes at hf
  refine gMT.of hl9 (by decide +kernel) ((Nat.le_of_ble_eq_true rfl)) ?_
  intro p e s m below meth c hM hH ls hl
  have hM : gMC w p l s m ([.ref (w.1 + a0), .int (gi x1)] : List Value).toArray meth c cX9_writes 2 RX9 none := hM
  have hl : lv_has ls 2 [(0, .ref (w.1 + a0)), (1, .int (gi x1))] := hl
  refine lv_aload_n hM.fx.1 hM.fx.2.1 dX9_writes_0 rfl (lv_at hl 0 rfl) ?_
  refine r_getR hM.fx hM.kf hH hLC fl_X9_36 hg0 gch_9_18 dX9_writes_1 ?_
  refine lv_aload_n hM.fx.1 hM.fx.2.1 dX9_writes_4 rfl (lv_at hl 0 rfl) ?_
  refine r_getI hM.fx hM.kf hH fl_X9_357 (hLC.in hg0 (by decide)) dX9_writes_5 ?_
  have hr_1 := hH.2.2.i (hLC.in hg0 (by decide)).2.2 (by decide : glg 9 19 = false)
  refine lv_iload_n hM.fx.1 hM.fx.2.1 dX9_writes_8 rfl (lv_at hl 1 rfl) ?_
  obtain ⟨g_2, hf⟩ := gif hf
  refine r_iast hM.fx hM.kf hH (hLC.in (hLC.ch hg0 (by decide) gch_9_18) (by decide)) (⟨by decide, by decide⟩ : gAr 38416 0) hr_1 g_2 hr1 dX9_writes_9 (fun H locs hH => ?_)
  obtain ⟨M_3, eM_3, hf⟩ := gst_s hf
  rw [← eM_3] at hH
  refine lv_aload_n hM.fx.1 hM.fx.2.1 dX9_writes_10 rfl (lv_at hl 0 rfl) ?_
  refine lv_dup hM.fx.1 hM.fx.2.1 dX9_writes_11 rfl ?_
  refine r_getI hM.fx hM.kf hH fl_X9_357 (hLC.in hg0 (by decide)) dX9_writes_12 ?_
  have hr_4 := hH.2.2.i (hLC.in hg0 (by decide)).2.2 (by decide : glg 9 19 = false)
  refine lv_iconst (v := gi (1)) hM.fx.1 hM.fx.2.1 dX9_writes_15 rfl ?_
  refine r_iadd hM.fx dX9_writes_16 ?_
  refine r_putI hM.fx hM.kf hH fp_X9_357 (hLC.in hg0 (by decide)) (gwi_r _) dX9_writes_17 (fun H locs hH => ?_)
  obtain ⟨M_5, eM_5, hf⟩ := gst_s hf
  rw [← eM_5] at hH
  obtain rfl := Option.some.inj hf
  exact r_vret hM hH trivial ⟨(Nat.le_of_ble_eq_true rfl), (Nat.le_of_ble_eq_true rfl)⟩ dX9_writes_20
def fX9_writesNumber (g : Nat → Nat) : Nat → Nat → Int → gMem → Option gMem
  | 0, _, _, _ => none
  | fu + 1, a0, x1, M => if 0 ≤ x1 then (if 0 ≤ x1 then (if x1 ≤ 9 then ((fX9_writes g a0 (gwi (48 + (x1).tmod 10)) M).bind fun M_5 => some M_5) else ((fX9_writesNumber g fu a0 (gwi ((x1).tdiv 10)) M).bind fun M_7 => (fX9_writes g a0 (gwi (48 + (x1).tmod 10)) M_7).bind fun M_9 => some M_9)) else (gst (gwi (-x1)) fun x_10 => if x_10 ≤ 9 then ((fX9_writes g a0 (gwi (48 + (x_10).tmod 10)) M).bind fun M_13 => some M_13) else ((fX9_writesNumber g fu a0 (gwi ((x_10).tdiv 10)) M).bind fun M_15 => (fX9_writes g a0 (gwi (48 + (x_10).tmod 10)) M_15).bind fun M_17 => some M_17))) else ((fX9_writes g a0 45 M).bind fun M_19 => if 0 ≤ x1 then (if x1 ≤ 9 then ((fX9_writes g a0 (gwi (48 + (x1).tmod 10)) M_19).bind fun M_23 => some M_23) else ((fX9_writesNumber g fu a0 (gwi ((x1).tdiv 10)) M_19).bind fun M_25 => (fX9_writes g a0 (gwi (48 + (x1).tmod 10)) M_25).bind fun M_27 => some M_27)) else (gst (gwi (-x1)) fun x_28 => if x_28 ≤ 9 then ((fX9_writes g a0 (gwi (48 + (x_28).tmod 10)) M_19).bind fun M_31 => some M_31) else ((fX9_writesNumber g fu a0 (gwi ((x_28).tdiv 10)) M_19).bind fun M_33 => (fX9_writes g a0 (gwi (48 + (x_28).tmod 10)) M_33).bind fun M_35 => some M_35)))
set_option maxHeartbeats 4000000 in
set_option maxRecDepth 100000 in
theorem mX9_writesNumber {w : gW} {n : Nat} {Rm : Nat → Nat → Nat} {g : Nat → Nat} (hLC : gLC g n Rm) {l : Launch} (hl9 : l.stackTraces = false) : ∀ (fu : Nat) {a0 : Nat} {x1 : Int} {M : gMem} {r : gMem} (hg0 : g a0 = 9) (hr1 : gRI x1) (hf : fX9_writesNumber g fu a0 x1 M = some r), gMT w n Rm l yX9_writesNumber cX9_writesNumber 3 none (fu + 1) (100 + 60 * fu) 0 0 [.ref (w.1 + a0), .int (gi x1)] M (.inr none) r True := by
  intro fu
  induction fu with
  | zero => intro a0 x1 M r hg0 hr1 hf; exact absurd hf (by simp [fX9_writesNumber])
  | succ fu ih =>
  intro a0 x1 M r hg0 hr1 hf
  unfold fX9_writesNumber at hf
  refine gMT.of hl9 (by decide +kernel) ((Nat.le_of_ble_eq_true rfl)) ?_
  intro p e s m below meth c hM hH ls hl
  have hM : gMC w p l s m ([.ref (w.1 + a0), .int (gi x1)] : List Value).toArray meth c cX9_writesNumber 3 RX9 none := hM
  have hl : lv_has ls 3 [(0, .ref (w.1 + a0)), (1, .int (gi x1))] := hl
  refine lv_iload_n hM.fx.1 hM.fx.2.1 dX9_writesNumber_0 rfl (lv_at hl 1 rfl) ?_
  refine r_if_ge (tgt := 10) hM.fx hr1 dX9_writesNumber_1 (by decide) (fun h_1 => ?_) (fun h_1 => ?_)
  · have hf := gpos h_1 hf
    refine lv_iload_n hM.fx.1 hM.fx.2.1 dX9_writesNumber_10 rfl (lv_at hl 1 rfl) ?_
    refine r_if_ge (tgt := 19) hM.fx hr1 dX9_writesNumber_11 (by decide) (fun h_2 => ?_) (fun h_2 => ?_)
    · have hf := gpos h_2 hf
      refine lv_iload_n hM.fx.1 hM.fx.2.1 dX9_writesNumber_19 rfl (lv_at hl 1 rfl) ?_
      refine lv_istore_n (lv' := [(2, .int (gi x1)), (0, .ref (w.1 + a0)), (1, .int (gi x1))]) hM.fx.1 hM.fx.2.1 dX9_writesNumber_20 rfl hl (by decide) rfl (fun ls hl => ?_)
      refine lv_iload_n hM.fx.1 hM.fx.2.1 dX9_writesNumber_21 rfl (lv_at hl 0 rfl) ?_
      refine lv_bipush (v := gi (9)) hM.fx.1 hM.fx.2.1 dX9_writesNumber_22 (by decide) ?_
      refine r_icmp_le (tgt := 35) hM.fx hr1 (gcR (k := 9) (by decide)) dX9_writesNumber_24 (by decide) (fun h_3 => ?_) (fun h_3 => ?_)
      · have hf := gpos h_3 hf
        refine lv_aload_n hM.fx.1 hM.fx.2.1 dX9_writesNumber_35 rfl (lv_at hl 1 rfl) ?_
        refine lv_bipush (v := gi (48)) hM.fx.1 hM.fx.2.1 dX9_writesNumber_36 (by decide) ?_
        refine lv_iload_n hM.fx.1 hM.fx.2.1 dX9_writesNumber_38 rfl (lv_at hl 0 rfl) ?_
        refine lv_bipush (v := gi (10)) hM.fx.1 hM.fx.2.1 dX9_writesNumber_39 (by decide) ?_
        refine r_irem hM.fx hr1 (gcR (k := 10) (by decide)) (by decide) dX9_writesNumber_41 ?_
        refine r_iadd hM.fx dX9_writesNumber_42 ?_
        obtain ⟨M_5, eM_5, hf⟩ := gbd hf
        refine r_go0 hH rfl (r_runV (As := [.int (gi (gwi (48 + (x1).tmod 10)))]) hM hH cv_X9_360 (mX9_writes hLC hM.ns hg0 (gwi_r _) eM_5) (hLC.in hg0 (by decide)) (by decide) rfl rfl rfl hl.1 rfl (by first | exact Nat.le_of_ble_eq_true rfl | omega | (dsimp only; omega)) ⟨(by first | exact Nat.le_of_ble_eq_true rfl | omega | (dsimp only; omega)), (by first | exact Nat.le_of_ble_eq_true rfl | omega | (dsimp only; omega))⟩ ⟨(by first | exact Nat.le_of_ble_eq_true rfl | omega | (dsimp only; omega)), (by first | exact Nat.le_of_ble_eq_true rfl | omega | (dsimp only; omega))⟩ dX9_writesNumber_43) (fun hp_4 H locs hH => ?_)
        obtain rfl := Option.some.inj hf
        exact r_vret hM hH trivial ⟨(by first | exact Nat.le_of_ble_eq_true rfl | omega | (dsimp only; omega)), (by first | exact Nat.le_of_ble_eq_true rfl | omega | (dsimp only; omega))⟩ dX9_writesNumber_46
      · have hf := gneg' h_3 hf
        refine lv_aload_n hM.fx.1 hM.fx.2.1 dX9_writesNumber_27 rfl (lv_at hl 1 rfl) ?_
        refine lv_iload_n hM.fx.1 hM.fx.2.1 dX9_writesNumber_28 rfl (lv_at hl 0 rfl) ?_
        refine lv_bipush (v := gi (10)) hM.fx.1 hM.fx.2.1 dX9_writesNumber_29 (by decide) ?_
        refine r_idiv hM.fx hr1 (gcR (k := 10) (by decide)) (by decide) dX9_writesNumber_31 ?_
        obtain ⟨M_7, eM_7, hf⟩ := gbd hf
        refine r_go0 hH rfl (r_runV (As := [.int (gi (gwi ((x1).tdiv 10)))]) hM hH cv_X9_363 (ih hg0 (gwi_r _) eM_7) (hLC.in hg0 (by decide)) (by decide) rfl rfl rfl hl.1 rfl (by first | exact Nat.le_of_ble_eq_true rfl | omega | (dsimp only; omega)) ⟨(by first | exact Nat.le_of_ble_eq_true rfl | omega | (dsimp only; omega)), (by first | exact Nat.le_of_ble_eq_true rfl | omega | (dsimp only; omega))⟩ ⟨(by first | exact Nat.le_of_ble_eq_true rfl | omega | (dsimp only; omega)), (by first | exact Nat.le_of_ble_eq_true rfl | omega | (dsimp only; omega))⟩ dX9_writesNumber_32) (fun hp_6 H locs hH => ?_)
        refine lv_aload_n hM.fx.1 hM.fx.2.1 dX9_writesNumber_35 rfl (lv_at hl 1 rfl) ?_
        refine lv_bipush (v := gi (48)) hM.fx.1 hM.fx.2.1 dX9_writesNumber_36 (by decide) ?_
        refine lv_iload_n hM.fx.1 hM.fx.2.1 dX9_writesNumber_38 rfl (lv_at hl 0 rfl) ?_
        refine lv_bipush (v := gi (10)) hM.fx.1 hM.fx.2.1 dX9_writesNumber_39 (by decide) ?_
        refine r_irem hM.fx hr1 (gcR (k := 10) (by decide)) (by decide) dX9_writesNumber_41 ?_
        refine r_iadd hM.fx dX9_writesNumber_42 ?_
        obtain ⟨M_9, eM_9, hf⟩ := gbd hf
        refine r_go0 hH rfl (r_runV (As := [.int (gi (gwi (48 + (x1).tmod 10)))]) hM hH cv_X9_360 (mX9_writes hLC hM.ns hg0 (gwi_r _) eM_9) (hLC.in hg0 (by decide)) (by decide) rfl rfl rfl hl.1 rfl (by first | exact Nat.le_of_ble_eq_true rfl | omega | (dsimp only; omega)) ⟨(by first | exact Nat.le_of_ble_eq_true rfl | omega | (dsimp only; omega)), (by first | exact Nat.le_of_ble_eq_true rfl | omega | (dsimp only; omega))⟩ ⟨(by first | exact Nat.le_of_ble_eq_true rfl | omega | (dsimp only; omega)), (by first | exact Nat.le_of_ble_eq_true rfl | omega | (dsimp only; omega))⟩ dX9_writesNumber_43) (fun hp_8 H locs hH => ?_)
        obtain rfl := Option.some.inj hf
        exact r_vret hM hH trivial ⟨(by first | exact Nat.le_of_ble_eq_true rfl | omega | (dsimp only; omega)), (by first | exact Nat.le_of_ble_eq_true rfl | omega | (dsimp only; omega))⟩ dX9_writesNumber_46
    · have hf := gneg' h_2 hf
      refine lv_iload_n hM.fx.1 hM.fx.2.1 dX9_writesNumber_14 rfl (lv_at hl 1 rfl) ?_
      refine r_ineg hM.fx dX9_writesNumber_15 ?_
      refine lv_goto (tgt := 20) hM.fx.1 hM.fx.2.1 dX9_writesNumber_16 (by decide) ?_
      obtain ⟨x_10, ex_10, hf⟩ := gst_s hf
      refine W.eq (g2 := F0 m _ ls (.int (gi x_10) :: _)) (by rw [ex_10]) ?_
      have hx_10 : gRI x_10 := by rw [ex_10]; exact (gwi_r _)
      refine lv_istore_n (lv' := [(2, .int (gi x_10)), (0, .ref (w.1 + a0)), (1, .int (gi x1))]) hM.fx.1 hM.fx.2.1 dX9_writesNumber_20 rfl hl (by decide) rfl (fun ls hl => ?_)
      refine lv_iload_n hM.fx.1 hM.fx.2.1 dX9_writesNumber_21 rfl (lv_at hl 0 rfl) ?_
      refine lv_bipush (v := gi (9)) hM.fx.1 hM.fx.2.1 dX9_writesNumber_22 (by decide) ?_
      refine r_icmp_le (tgt := 35) hM.fx hx_10 (gcR (k := 9) (by decide)) dX9_writesNumber_24 (by decide) (fun h_11 => ?_) (fun h_11 => ?_)
      · have hf := gpos h_11 hf
        refine lv_aload_n hM.fx.1 hM.fx.2.1 dX9_writesNumber_35 rfl (lv_at hl 1 rfl) ?_
        refine lv_bipush (v := gi (48)) hM.fx.1 hM.fx.2.1 dX9_writesNumber_36 (by decide) ?_
        refine lv_iload_n hM.fx.1 hM.fx.2.1 dX9_writesNumber_38 rfl (lv_at hl 0 rfl) ?_
        refine lv_bipush (v := gi (10)) hM.fx.1 hM.fx.2.1 dX9_writesNumber_39 (by decide) ?_
        refine r_irem hM.fx hx_10 (gcR (k := 10) (by decide)) (by decide) dX9_writesNumber_41 ?_
        refine r_iadd hM.fx dX9_writesNumber_42 ?_
        obtain ⟨M_13, eM_13, hf⟩ := gbd hf
        refine r_go0 hH rfl (r_runV (As := [.int (gi (gwi (48 + (x_10).tmod 10)))]) hM hH cv_X9_360 (mX9_writes hLC hM.ns hg0 (gwi_r _) eM_13) (hLC.in hg0 (by decide)) (by decide) rfl rfl rfl hl.1 rfl (by first | exact Nat.le_of_ble_eq_true rfl | omega | (dsimp only; omega)) ⟨(by first | exact Nat.le_of_ble_eq_true rfl | omega | (dsimp only; omega)), (by first | exact Nat.le_of_ble_eq_true rfl | omega | (dsimp only; omega))⟩ ⟨(by first | exact Nat.le_of_ble_eq_true rfl | omega | (dsimp only; omega)), (by first | exact Nat.le_of_ble_eq_true rfl | omega | (dsimp only; omega))⟩ dX9_writesNumber_43) (fun hp_12 H locs hH => ?_)
        obtain rfl := Option.some.inj hf
        exact r_vret hM hH trivial ⟨(by first | exact Nat.le_of_ble_eq_true rfl | omega | (dsimp only; omega)), (by first | exact Nat.le_of_ble_eq_true rfl | omega | (dsimp only; omega))⟩ dX9_writesNumber_46
      · have hf := gneg' h_11 hf
        refine lv_aload_n hM.fx.1 hM.fx.2.1 dX9_writesNumber_27 rfl (lv_at hl 1 rfl) ?_
        refine lv_iload_n hM.fx.1 hM.fx.2.1 dX9_writesNumber_28 rfl (lv_at hl 0 rfl) ?_
        refine lv_bipush (v := gi (10)) hM.fx.1 hM.fx.2.1 dX9_writesNumber_29 (by decide) ?_
        refine r_idiv hM.fx hx_10 (gcR (k := 10) (by decide)) (by decide) dX9_writesNumber_31 ?_
        obtain ⟨M_15, eM_15, hf⟩ := gbd hf
        refine r_go0 hH rfl (r_runV (As := [.int (gi (gwi ((x_10).tdiv 10)))]) hM hH cv_X9_363 (ih hg0 (gwi_r _) eM_15) (hLC.in hg0 (by decide)) (by decide) rfl rfl rfl hl.1 rfl (by first | exact Nat.le_of_ble_eq_true rfl | omega | (dsimp only; omega)) ⟨(by first | exact Nat.le_of_ble_eq_true rfl | omega | (dsimp only; omega)), (by first | exact Nat.le_of_ble_eq_true rfl | omega | (dsimp only; omega))⟩ ⟨(by first | exact Nat.le_of_ble_eq_true rfl | omega | (dsimp only; omega)), (by first | exact Nat.le_of_ble_eq_true rfl | omega | (dsimp only; omega))⟩ dX9_writesNumber_32) (fun hp_14 H locs hH => ?_)
        refine lv_aload_n hM.fx.1 hM.fx.2.1 dX9_writesNumber_35 rfl (lv_at hl 1 rfl) ?_
        refine lv_bipush (v := gi (48)) hM.fx.1 hM.fx.2.1 dX9_writesNumber_36 (by decide) ?_
        refine lv_iload_n hM.fx.1 hM.fx.2.1 dX9_writesNumber_38 rfl (lv_at hl 0 rfl) ?_
        refine lv_bipush (v := gi (10)) hM.fx.1 hM.fx.2.1 dX9_writesNumber_39 (by decide) ?_
        refine r_irem hM.fx hx_10 (gcR (k := 10) (by decide)) (by decide) dX9_writesNumber_41 ?_
        refine r_iadd hM.fx dX9_writesNumber_42 ?_
        obtain ⟨M_17, eM_17, hf⟩ := gbd hf
        refine r_go0 hH rfl (r_runV (As := [.int (gi (gwi (48 + (x_10).tmod 10)))]) hM hH cv_X9_360 (mX9_writes hLC hM.ns hg0 (gwi_r _) eM_17) (hLC.in hg0 (by decide)) (by decide) rfl rfl rfl hl.1 rfl (by first | exact Nat.le_of_ble_eq_true rfl | omega | (dsimp only; omega)) ⟨(by first | exact Nat.le_of_ble_eq_true rfl | omega | (dsimp only; omega)), (by first | exact Nat.le_of_ble_eq_true rfl | omega | (dsimp only; omega))⟩ ⟨(by first | exact Nat.le_of_ble_eq_true rfl | omega | (dsimp only; omega)), (by first | exact Nat.le_of_ble_eq_true rfl | omega | (dsimp only; omega))⟩ dX9_writesNumber_43) (fun hp_16 H locs hH => ?_)
        obtain rfl := Option.some.inj hf
        exact r_vret hM hH trivial ⟨(by first | exact Nat.le_of_ble_eq_true rfl | omega | (dsimp only; omega)), (by first | exact Nat.le_of_ble_eq_true rfl | omega | (dsimp only; omega))⟩ dX9_writesNumber_46
  · have hf := gneg' h_1 hf
    refine lv_aload_n hM.fx.1 hM.fx.2.1 dX9_writesNumber_4 rfl (lv_at hl 0 rfl) ?_
    refine lv_bipush (v := gi (45)) hM.fx.1 hM.fx.2.1 dX9_writesNumber_5 (by decide) ?_
    obtain ⟨M_19, eM_19, hf⟩ := gbd hf
    refine r_go0 hH rfl (r_runV (As := [.int (gi 45)]) hM hH cv_X9_360 (mX9_writes hLC hM.ns hg0 (gcR (k := 45) (by decide)) eM_19) (hLC.in hg0 (by decide)) (by decide) rfl rfl rfl hl.1 rfl (by first | exact Nat.le_of_ble_eq_true rfl | omega | (dsimp only; omega)) ⟨(by first | exact Nat.le_of_ble_eq_true rfl | omega | (dsimp only; omega)), (by first | exact Nat.le_of_ble_eq_true rfl | omega | (dsimp only; omega))⟩ ⟨(by first | exact Nat.le_of_ble_eq_true rfl | omega | (dsimp only; omega)), (by first | exact Nat.le_of_ble_eq_true rfl | omega | (dsimp only; omega))⟩ dX9_writesNumber_7) (fun hp_18 H locs hH => ?_)
    refine lv_iload_n hM.fx.1 hM.fx.2.1 dX9_writesNumber_10 rfl (lv_at hl 1 rfl) ?_
    refine r_if_ge (tgt := 19) hM.fx hr1 dX9_writesNumber_11 (by decide) (fun h_20 => ?_) (fun h_20 => ?_)
    · have hf := gpos h_20 hf
      refine lv_iload_n hM.fx.1 hM.fx.2.1 dX9_writesNumber_19 rfl (lv_at hl 1 rfl) ?_
      refine lv_istore_n (lv' := [(2, .int (gi x1)), (0, .ref (w.1 + a0)), (1, .int (gi x1))]) hM.fx.1 hM.fx.2.1 dX9_writesNumber_20 rfl hl (by decide) rfl (fun ls hl => ?_)
      refine lv_iload_n hM.fx.1 hM.fx.2.1 dX9_writesNumber_21 rfl (lv_at hl 0 rfl) ?_
      refine lv_bipush (v := gi (9)) hM.fx.1 hM.fx.2.1 dX9_writesNumber_22 (by decide) ?_
      refine r_icmp_le (tgt := 35) hM.fx hr1 (gcR (k := 9) (by decide)) dX9_writesNumber_24 (by decide) (fun h_21 => ?_) (fun h_21 => ?_)
      · have hf := gpos h_21 hf
        refine lv_aload_n hM.fx.1 hM.fx.2.1 dX9_writesNumber_35 rfl (lv_at hl 1 rfl) ?_
        refine lv_bipush (v := gi (48)) hM.fx.1 hM.fx.2.1 dX9_writesNumber_36 (by decide) ?_
        refine lv_iload_n hM.fx.1 hM.fx.2.1 dX9_writesNumber_38 rfl (lv_at hl 0 rfl) ?_
        refine lv_bipush (v := gi (10)) hM.fx.1 hM.fx.2.1 dX9_writesNumber_39 (by decide) ?_
        refine r_irem hM.fx hr1 (gcR (k := 10) (by decide)) (by decide) dX9_writesNumber_41 ?_
        refine r_iadd hM.fx dX9_writesNumber_42 ?_
        obtain ⟨M_23, eM_23, hf⟩ := gbd hf
        refine r_go0 hH rfl (r_runV (As := [.int (gi (gwi (48 + (x1).tmod 10)))]) hM hH cv_X9_360 (mX9_writes hLC hM.ns hg0 (gwi_r _) eM_23) (hLC.in hg0 (by decide)) (by decide) rfl rfl rfl hl.1 rfl (by first | exact Nat.le_of_ble_eq_true rfl | omega | (dsimp only; omega)) ⟨(by first | exact Nat.le_of_ble_eq_true rfl | omega | (dsimp only; omega)), (by first | exact Nat.le_of_ble_eq_true rfl | omega | (dsimp only; omega))⟩ ⟨(by first | exact Nat.le_of_ble_eq_true rfl | omega | (dsimp only; omega)), (by first | exact Nat.le_of_ble_eq_true rfl | omega | (dsimp only; omega))⟩ dX9_writesNumber_43) (fun hp_22 H locs hH => ?_)
        obtain rfl := Option.some.inj hf
        exact r_vret hM hH trivial ⟨(by first | exact Nat.le_of_ble_eq_true rfl | omega | (dsimp only; omega)), (by first | exact Nat.le_of_ble_eq_true rfl | omega | (dsimp only; omega))⟩ dX9_writesNumber_46
      · have hf := gneg' h_21 hf
        refine lv_aload_n hM.fx.1 hM.fx.2.1 dX9_writesNumber_27 rfl (lv_at hl 1 rfl) ?_
        refine lv_iload_n hM.fx.1 hM.fx.2.1 dX9_writesNumber_28 rfl (lv_at hl 0 rfl) ?_
        refine lv_bipush (v := gi (10)) hM.fx.1 hM.fx.2.1 dX9_writesNumber_29 (by decide) ?_
        refine r_idiv hM.fx hr1 (gcR (k := 10) (by decide)) (by decide) dX9_writesNumber_31 ?_
        obtain ⟨M_25, eM_25, hf⟩ := gbd hf
        refine r_go0 hH rfl (r_runV (As := [.int (gi (gwi ((x1).tdiv 10)))]) hM hH cv_X9_363 (ih hg0 (gwi_r _) eM_25) (hLC.in hg0 (by decide)) (by decide) rfl rfl rfl hl.1 rfl (by first | exact Nat.le_of_ble_eq_true rfl | omega | (dsimp only; omega)) ⟨(by first | exact Nat.le_of_ble_eq_true rfl | omega | (dsimp only; omega)), (by first | exact Nat.le_of_ble_eq_true rfl | omega | (dsimp only; omega))⟩ ⟨(by first | exact Nat.le_of_ble_eq_true rfl | omega | (dsimp only; omega)), (by first | exact Nat.le_of_ble_eq_true rfl | omega | (dsimp only; omega))⟩ dX9_writesNumber_32) (fun hp_24 H locs hH => ?_)
        refine lv_aload_n hM.fx.1 hM.fx.2.1 dX9_writesNumber_35 rfl (lv_at hl 1 rfl) ?_
        refine lv_bipush (v := gi (48)) hM.fx.1 hM.fx.2.1 dX9_writesNumber_36 (by decide) ?_
        refine lv_iload_n hM.fx.1 hM.fx.2.1 dX9_writesNumber_38 rfl (lv_at hl 0 rfl) ?_
        refine lv_bipush (v := gi (10)) hM.fx.1 hM.fx.2.1 dX9_writesNumber_39 (by decide) ?_
        refine r_irem hM.fx hr1 (gcR (k := 10) (by decide)) (by decide) dX9_writesNumber_41 ?_
        refine r_iadd hM.fx dX9_writesNumber_42 ?_
        obtain ⟨M_27, eM_27, hf⟩ := gbd hf
        refine r_go0 hH rfl (r_runV (As := [.int (gi (gwi (48 + (x1).tmod 10)))]) hM hH cv_X9_360 (mX9_writes hLC hM.ns hg0 (gwi_r _) eM_27) (hLC.in hg0 (by decide)) (by decide) rfl rfl rfl hl.1 rfl (by first | exact Nat.le_of_ble_eq_true rfl | omega | (dsimp only; omega)) ⟨(by first | exact Nat.le_of_ble_eq_true rfl | omega | (dsimp only; omega)), (by first | exact Nat.le_of_ble_eq_true rfl | omega | (dsimp only; omega))⟩ ⟨(by first | exact Nat.le_of_ble_eq_true rfl | omega | (dsimp only; omega)), (by first | exact Nat.le_of_ble_eq_true rfl | omega | (dsimp only; omega))⟩ dX9_writesNumber_43) (fun hp_26 H locs hH => ?_)
        obtain rfl := Option.some.inj hf
        exact r_vret hM hH trivial ⟨(by first | exact Nat.le_of_ble_eq_true rfl | omega | (dsimp only; omega)), (by first | exact Nat.le_of_ble_eq_true rfl | omega | (dsimp only; omega))⟩ dX9_writesNumber_46
    · have hf := gneg' h_20 hf
      refine lv_iload_n hM.fx.1 hM.fx.2.1 dX9_writesNumber_14 rfl (lv_at hl 1 rfl) ?_
      refine r_ineg hM.fx dX9_writesNumber_15 ?_
      refine lv_goto (tgt := 20) hM.fx.1 hM.fx.2.1 dX9_writesNumber_16 (by decide) ?_
      obtain ⟨x_28, ex_28, hf⟩ := gst_s hf
      refine W.eq (g2 := F0 m _ ls (.int (gi x_28) :: _)) (by rw [ex_28]) ?_
      have hx_28 : gRI x_28 := by rw [ex_28]; exact (gwi_r _)
      refine lv_istore_n (lv' := [(2, .int (gi x_28)), (0, .ref (w.1 + a0)), (1, .int (gi x1))]) hM.fx.1 hM.fx.2.1 dX9_writesNumber_20 rfl hl (by decide) rfl (fun ls hl => ?_)
      refine lv_iload_n hM.fx.1 hM.fx.2.1 dX9_writesNumber_21 rfl (lv_at hl 0 rfl) ?_
      refine lv_bipush (v := gi (9)) hM.fx.1 hM.fx.2.1 dX9_writesNumber_22 (by decide) ?_
      refine r_icmp_le (tgt := 35) hM.fx hx_28 (gcR (k := 9) (by decide)) dX9_writesNumber_24 (by decide) (fun h_29 => ?_) (fun h_29 => ?_)
      · have hf := gpos h_29 hf
        refine lv_aload_n hM.fx.1 hM.fx.2.1 dX9_writesNumber_35 rfl (lv_at hl 1 rfl) ?_
        refine lv_bipush (v := gi (48)) hM.fx.1 hM.fx.2.1 dX9_writesNumber_36 (by decide) ?_
        refine lv_iload_n hM.fx.1 hM.fx.2.1 dX9_writesNumber_38 rfl (lv_at hl 0 rfl) ?_
        refine lv_bipush (v := gi (10)) hM.fx.1 hM.fx.2.1 dX9_writesNumber_39 (by decide) ?_
        refine r_irem hM.fx hx_28 (gcR (k := 10) (by decide)) (by decide) dX9_writesNumber_41 ?_
        refine r_iadd hM.fx dX9_writesNumber_42 ?_
        obtain ⟨M_31, eM_31, hf⟩ := gbd hf
        refine r_go0 hH rfl (r_runV (As := [.int (gi (gwi (48 + (x_28).tmod 10)))]) hM hH cv_X9_360 (mX9_writes hLC hM.ns hg0 (gwi_r _) eM_31) (hLC.in hg0 (by decide)) (by decide) rfl rfl rfl hl.1 rfl (by first | exact Nat.le_of_ble_eq_true rfl | omega | (dsimp only; omega)) ⟨(by first | exact Nat.le_of_ble_eq_true rfl | omega | (dsimp only; omega)), (by first | exact Nat.le_of_ble_eq_true rfl | omega | (dsimp only; omega))⟩ ⟨(by first | exact Nat.le_of_ble_eq_true rfl | omega | (dsimp only; omega)), (by first | exact Nat.le_of_ble_eq_true rfl | omega | (dsimp only; omega))⟩ dX9_writesNumber_43) (fun hp_30 H locs hH => ?_)
        obtain rfl := Option.some.inj hf
        exact r_vret hM hH trivial ⟨(by first | exact Nat.le_of_ble_eq_true rfl | omega | (dsimp only; omega)), (by first | exact Nat.le_of_ble_eq_true rfl | omega | (dsimp only; omega))⟩ dX9_writesNumber_46
      · have hf := gneg' h_29 hf
        refine lv_aload_n hM.fx.1 hM.fx.2.1 dX9_writesNumber_27 rfl (lv_at hl 1 rfl) ?_
        refine lv_iload_n hM.fx.1 hM.fx.2.1 dX9_writesNumber_28 rfl (lv_at hl 0 rfl) ?_
        refine lv_bipush (v := gi (10)) hM.fx.1 hM.fx.2.1 dX9_writesNumber_29 (by decide) ?_
        refine r_idiv hM.fx hx_28 (gcR (k := 10) (by decide)) (by decide) dX9_writesNumber_31 ?_
        obtain ⟨M_33, eM_33, hf⟩ := gbd hf
        refine r_go0 hH rfl (r_runV (As := [.int (gi (gwi ((x_28).tdiv 10)))]) hM hH cv_X9_363 (ih hg0 (gwi_r _) eM_33) (hLC.in hg0 (by decide)) (by decide) rfl rfl rfl hl.1 rfl (by first | exact Nat.le_of_ble_eq_true rfl | omega | (dsimp only; omega)) ⟨(by first | exact Nat.le_of_ble_eq_true rfl | omega | (dsimp only; omega)), (by first | exact Nat.le_of_ble_eq_true rfl | omega | (dsimp only; omega))⟩ ⟨(by first | exact Nat.le_of_ble_eq_true rfl | omega | (dsimp only; omega)), (by first | exact Nat.le_of_ble_eq_true rfl | omega | (dsimp only; omega))⟩ dX9_writesNumber_32) (fun hp_32 H locs hH => ?_)
        refine lv_aload_n hM.fx.1 hM.fx.2.1 dX9_writesNumber_35 rfl (lv_at hl 1 rfl) ?_
        refine lv_bipush (v := gi (48)) hM.fx.1 hM.fx.2.1 dX9_writesNumber_36 (by decide) ?_
        refine lv_iload_n hM.fx.1 hM.fx.2.1 dX9_writesNumber_38 rfl (lv_at hl 0 rfl) ?_
        refine lv_bipush (v := gi (10)) hM.fx.1 hM.fx.2.1 dX9_writesNumber_39 (by decide) ?_
        refine r_irem hM.fx hx_28 (gcR (k := 10) (by decide)) (by decide) dX9_writesNumber_41 ?_
        refine r_iadd hM.fx dX9_writesNumber_42 ?_
        obtain ⟨M_35, eM_35, hf⟩ := gbd hf
        refine r_go0 hH rfl (r_runV (As := [.int (gi (gwi (48 + (x_28).tmod 10)))]) hM hH cv_X9_360 (mX9_writes hLC hM.ns hg0 (gwi_r _) eM_35) (hLC.in hg0 (by decide)) (by decide) rfl rfl rfl hl.1 rfl (by first | exact Nat.le_of_ble_eq_true rfl | omega | (dsimp only; omega)) ⟨(by first | exact Nat.le_of_ble_eq_true rfl | omega | (dsimp only; omega)), (by first | exact Nat.le_of_ble_eq_true rfl | omega | (dsimp only; omega))⟩ ⟨(by first | exact Nat.le_of_ble_eq_true rfl | omega | (dsimp only; omega)), (by first | exact Nat.le_of_ble_eq_true rfl | omega | (dsimp only; omega))⟩ dX9_writesNumber_43) (fun hp_34 H locs hH => ?_)
        obtain rfl := Option.some.inj hf
        exact r_vret hM hH trivial ⟨(by first | exact Nat.le_of_ble_eq_true rfl | omega | (dsimp only; omega)), (by first | exact Nat.le_of_ble_eq_true rfl | omega | (dsimp only; omega))⟩ dX9_writesNumber_46
def fX9_writeStacks_154 (g : Nat → Nat) (k12 : Nat → Int → gMem → Option (Int × gMem)) (a0 : Nat) (x1 : Int) (M : gMem) : Option (Int × gMem) :=
  gst (gwi (x1 + 1)) fun x_1 => k12 a0 x_1 M
set_option maxHeartbeats 4000000 in
set_option maxRecDepth 100000 in
theorem wX9_writeStacks_154 {w : gW} {n : Nat} {Rm : Nat → Nat → Nat} {g : Nat → Nat} (hLC : gLC g n Rm) {p : Program} {l : Launch} {e : Env} {s : State} {m : MethodId} {args : Array Value} {below : List Frame} {meth : Method} {c : Code} (hM : gMC w p l s m args meth c cX9_writeStacks 4 RX9 (some .int)) (k12 : Nat → Int → gMem → Option (Int × gMem)) (hk12 : ∀ (a0 : Nat) (x1 : Int) (M : gMem) (r : (Int × gMem)) (hg0 : g a0 = 9) (hr1 : gRI x1) (hf : k12 a0 x1 M = some r) (H : Heap) (locs : List Loc) (ls : Array Slot) (hH : gH w n Rm M s H locs) (hl : lv_has ls 4 [(0, .ref (w.1 + a0)), (1, .int (gi x1))]), W p l e { frames := 15, cells := 0, slots := 0, locals := 842 } s m args below meth c H locs 0 0 (gQ w n Rm below args s 0 0 (.inr (some (.int (gi r.1)))) r.2 (gRI r.1)) (F0 m 12 ls [])) : ∀ (a0 : Nat) (x1 : Int) (M : gMem) (r : (Int × gMem)) (hg0 : g a0 = 9) (hr1 : gRI x1) (hf : fX9_writeStacks_154 g k12 a0 x1 M = some r) (H : Heap) (locs : List Loc) (ls : Array Slot) (hH : gH w n Rm M s H locs) (hl : lv_has ls 4 [(0, .ref (w.1 + a0)), (1, .int (gi x1))]), W p l e { frames := 15, cells := 0, slots := 0, locals := 842 } s m args below meth c H locs 0 0 (gQ w n Rm below args s 0 0 (.inr (some (.int (gi r.1)))) r.2 (gRI r.1)) (F0 m 154 ls []) := by
  intro a0 x1 M r hg0 hr1 hf H locs ls hH hl
  unfold fX9_writeStacks_154 at hf
  obtain ⟨x_1, ex_1, hf⟩ := gst_s hf
  have hx_1 : gRI x_1 := by rw [ex_1]; exact gwi_r _
  refine r_iinc (lv' := [(1, .int (gi x_1)), (0, .ref (w.1 + a0))]) hM.fx dX9_writeStacks_154 hl (k := 1) rfl (by decide) (by rw [ex_1]; rfl) (fun ls hl => ?_)
  refine lv_goto (tgt := 12) hM.fx.1 hM.fx.2.1 dX9_writeStacks_157 (by decide) ?_
  exact hk12 _ _ _ _ hg0 hx_1 hf _ _ _ hH (lv_sub hl [1, 0] rfl)
def fX9_writeStacks_112 (g : Nat → Nat) (k12 : Nat → Int → gMem → Option (Int × gMem)) : Nat → Nat → Int → Int → Int → gMem → Option (Int × gMem)
  | 0, _, _, _, _, _ => none
  | fu + 1, a0, x1, x2, x3, M => if x2 = (-1) then (fX9_writeStacks_154 g k12 a0 x1 M) else (if 8 ≤ x3 then (fX9_writeStacks_154 g k12 a0 x1 M) else ((fX9_of g a0 x2 (gwi (10 + x3)) M).bind fun x_4 => if x_4 ≤ 0 then (fX9_writeStacks_154 g k12 a0 x1 M) else ((fX9_of g a0 x2 (gwi (10 + x3)) M).bind fun x_7 => (fX9_writes g a0 x_7 M).bind fun M_9 => gst (gwi (x3 + 1)) fun x_10 => fX9_writeStacks_112 g k12 fu a0 x1 x2 x_10 M_9)))
set_option maxHeartbeats 4000000 in
set_option maxRecDepth 100000 in
theorem wX9_writeStacks_112 {w : gW} {n : Nat} {Rm : Nat → Nat → Nat} {g : Nat → Nat} (hLC : gLC g n Rm) {p : Program} {l : Launch} {e : Env} {s : State} {m : MethodId} {args : Array Value} {below : List Frame} {meth : Method} {c : Code} (hM : gMC w p l s m args meth c cX9_writeStacks 4 RX9 (some .int)) (k12 : Nat → Int → gMem → Option (Int × gMem)) (hk12 : ∀ (a0 : Nat) (x1 : Int) (M : gMem) (r : (Int × gMem)) (hg0 : g a0 = 9) (hr1 : gRI x1) (hf : k12 a0 x1 M = some r) (H : Heap) (locs : List Loc) (ls : Array Slot) (hH : gH w n Rm M s H locs) (hl : lv_has ls 4 [(0, .ref (w.1 + a0)), (1, .int (gi x1))]), W p l e { frames := 15, cells := 0, slots := 0, locals := 842 } s m args below meth c H locs 0 0 (gQ w n Rm below args s 0 0 (.inr (some (.int (gi r.1)))) r.2 (gRI r.1)) (F0 m 12 ls [])) : ∀ (fu : Nat), ∀ (a0 : Nat) (x1 : Int) (x2 : Int) (x3 : Int) (M : gMem) (r : (Int × gMem)) (hg0 : g a0 = 9) (hr1 : gRI x1) (hr2 : gRI x2) (hr3 : gRI x3) (hf : fX9_writeStacks_112 g k12 fu a0 x1 x2 x3 M = some r) (H : Heap) (locs : List Loc) (ls : Array Slot) (hH : gH w n Rm M s H locs) (hl : lv_has ls 4 [(0, .ref (w.1 + a0)), (1, .int (gi x1)), (2, .int (gi x2)), (3, .int (gi x3))]), W p l e { frames := 15, cells := 0, slots := 0, locals := 842 } s m args below meth c H locs 0 0 (gQ w n Rm below args s 0 0 (.inr (some (.int (gi r.1)))) r.2 (gRI r.1)) (F0 m 112 ls []) := by
  intro fu
  induction fu with
  | zero =>
    intro a0 x1 x2 x3 M r hg0 hr1 hr2 hr3 hf H locs ls hH hl
    exact absurd hf (by simp [fX9_writeStacks_112])
  | succ fu ih =>
    intro a0 x1 x2 x3 M r hg0 hr1 hr2 hr3 hf H locs ls hH hl
    unfold fX9_writeStacks_112 at hf
    refine lv_iload_n hM.fx.1 hM.fx.2.1 dX9_writeStacks_112 rfl (lv_at hl 2 rfl) ?_
    refine lv_iconst (v := gi (-1)) hM.fx.1 hM.fx.2.1 dX9_writeStacks_113 rfl ?_
    refine r_icmp_eq (tgt := 154) hM.fx hr2 (gcR (k := -1) (by decide)) dX9_writeStacks_114 (by decide) (fun h_1 => ?_) (fun h_1 => ?_)
    · have hf := gpos h_1 hf
      exact wX9_writeStacks_154 hLC hM k12 hk12  _ _ _ _ hg0 hr1 hf _ _ _ hH (lv_sub hl [0, 1] rfl)
    · have hf := gneg' h_1 hf
      refine lv_iload_n hM.fx.1 hM.fx.2.1 dX9_writeStacks_117 rfl (lv_at hl 3 rfl) ?_
      refine lv_bipush (v := gi (8)) hM.fx.1 hM.fx.2.1 dX9_writeStacks_118 (by decide) ?_
      refine r_icmp_ge (tgt := 154) hM.fx hr3 (gcR (k := 8) (by decide)) dX9_writeStacks_120 (by decide) (fun h_2 => ?_) (fun h_2 => ?_)
      · have hf := gpos h_2 hf
        exact wX9_writeStacks_154 hLC hM k12 hk12  _ _ _ _ hg0 hr1 hf _ _ _ hH (lv_sub hl [0, 1] rfl)
      · have hf := gneg' h_2 hf
        refine lv_aload_n hM.fx.1 hM.fx.2.1 dX9_writeStacks_123 rfl (lv_at hl 0 rfl) ?_
        refine lv_iload_n hM.fx.1 hM.fx.2.1 dX9_writeStacks_124 rfl (lv_at hl 2 rfl) ?_
        refine lv_bipush (v := gi (10)) hM.fx.1 hM.fx.2.1 dX9_writeStacks_125 (by decide) ?_
        refine lv_iload_n hM.fx.1 hM.fx.2.1 dX9_writeStacks_127 rfl (lv_at hl 3 rfl) ?_
        refine r_iadd hM.fx dX9_writeStacks_128 ?_
        obtain ⟨x_4, ex_4, hf⟩ := gbd hf
        refine r_go1 hH rfl (r_runV (As := [.int (gi x2), .int (gi (gwi (10 + x3)))]) hM hH cv_X9_135 (mX9_of hLC hM.ns hg0 hr2 (gwi_r _) ex_4) (hLC.in hg0 (by decide)) (by decide) rfl rfl rfl hl.1 rfl (Nat.le_of_ble_eq_true rfl) ⟨(Nat.le_of_ble_eq_true rfl), (Nat.le_of_ble_eq_true rfl)⟩ ⟨(Nat.le_of_ble_eq_true rfl), (Nat.le_of_ble_eq_true rfl)⟩ dX9_writeStacks_129) (fun hp_3 H locs hH => ?_)
        refine r_if_le (tgt := 154) hM.fx hp_3 dX9_writeStacks_132 (by decide) (fun h_5 => ?_) (fun h_5 => ?_)
        · have hf := gpos h_5 hf
          exact wX9_writeStacks_154 hLC hM k12 hk12  _ _ _ _ hg0 hr1 hf _ _ _ hH (lv_sub hl [0, 1] rfl)
        · have hf := gneg' h_5 hf
          refine lv_aload_n hM.fx.1 hM.fx.2.1 dX9_writeStacks_135 rfl (lv_at hl 0 rfl) ?_
          refine lv_aload_n hM.fx.1 hM.fx.2.1 dX9_writeStacks_136 rfl (lv_at hl 0 rfl) ?_
          refine lv_iload_n hM.fx.1 hM.fx.2.1 dX9_writeStacks_137 rfl (lv_at hl 2 rfl) ?_
          refine lv_bipush (v := gi (10)) hM.fx.1 hM.fx.2.1 dX9_writeStacks_138 (by decide) ?_
          refine lv_iload_n hM.fx.1 hM.fx.2.1 dX9_writeStacks_140 rfl (lv_at hl 3 rfl) ?_
          refine r_iadd hM.fx dX9_writeStacks_141 ?_
          obtain ⟨x_7, ex_7, hf⟩ := gbd hf
          refine r_go1 hH rfl (r_runV (As := [.int (gi x2), .int (gi (gwi (10 + x3)))]) hM hH cv_X9_135 (mX9_of hLC hM.ns hg0 hr2 (gwi_r _) ex_7) (hLC.in hg0 (by decide)) (by decide) rfl rfl rfl hl.1 rfl (Nat.le_of_ble_eq_true rfl) ⟨(Nat.le_of_ble_eq_true rfl), (Nat.le_of_ble_eq_true rfl)⟩ ⟨(Nat.le_of_ble_eq_true rfl), (Nat.le_of_ble_eq_true rfl)⟩ dX9_writeStacks_142) (fun hp_6 H locs hH => ?_)
          obtain ⟨M_9, eM_9, hf⟩ := gbd hf
          refine r_go0 hH rfl (r_runV (As := [.int (gi x_7)]) hM hH cv_X9_360 (mX9_writes hLC hM.ns hg0 hp_6 eM_9) (hLC.in hg0 (by decide)) (by decide) rfl rfl rfl hl.1 rfl (Nat.le_of_ble_eq_true rfl) ⟨(Nat.le_of_ble_eq_true rfl), (Nat.le_of_ble_eq_true rfl)⟩ ⟨(Nat.le_of_ble_eq_true rfl), (Nat.le_of_ble_eq_true rfl)⟩ dX9_writeStacks_145) (fun hp_8 H locs hH => ?_)
          obtain ⟨x_10, ex_10, hf⟩ := gst_s hf
          have hx_10 : gRI x_10 := by rw [ex_10]; exact gwi_r _
          refine r_iinc (lv' := [(3, .int (gi x_10)), (0, .ref (w.1 + a0)), (1, .int (gi x1)), (2, .int (gi x2))]) hM.fx dX9_writeStacks_148 hl (k := 3) rfl (by decide) (by rw [ex_10]; rfl) (fun ls hl => ?_)
          refine lv_goto (tgt := 112) hM.fx.1 hM.fx.2.1 dX9_writeStacks_151 (by decide) ?_
          exact ih _ _ _ _ _ _ hg0 hr1 hr2 hx_10 hf _ _ _ hH (lv_sub hl [1, 2, 3, 0] rfl)
def fX9_writeStacks_110 (g : Nat → Nat) (k12 : Nat → Int → gMem → Option (Int × gMem)) (a0 : Nat) (x1 : Int) (x2 : Int) (M : gMem) : Option (Int × gMem) :=
  fX9_writeStacks_112 g k12 gF a0 x1 x2 0 M
set_option maxHeartbeats 4000000 in
set_option maxRecDepth 100000 in
theorem wX9_writeStacks_110 {w : gW} {n : Nat} {Rm : Nat → Nat → Nat} {g : Nat → Nat} (hLC : gLC g n Rm) {p : Program} {l : Launch} {e : Env} {s : State} {m : MethodId} {args : Array Value} {below : List Frame} {meth : Method} {c : Code} (hM : gMC w p l s m args meth c cX9_writeStacks 4 RX9 (some .int)) (k12 : Nat → Int → gMem → Option (Int × gMem)) (hk12 : ∀ (a0 : Nat) (x1 : Int) (M : gMem) (r : (Int × gMem)) (hg0 : g a0 = 9) (hr1 : gRI x1) (hf : k12 a0 x1 M = some r) (H : Heap) (locs : List Loc) (ls : Array Slot) (hH : gH w n Rm M s H locs) (hl : lv_has ls 4 [(0, .ref (w.1 + a0)), (1, .int (gi x1))]), W p l e { frames := 15, cells := 0, slots := 0, locals := 842 } s m args below meth c H locs 0 0 (gQ w n Rm below args s 0 0 (.inr (some (.int (gi r.1)))) r.2 (gRI r.1)) (F0 m 12 ls [])) : ∀ (a0 : Nat) (x1 : Int) (x2 : Int) (M : gMem) (r : (Int × gMem)) (hg0 : g a0 = 9) (hr1 : gRI x1) (hr2 : gRI x2) (hf : fX9_writeStacks_110 g k12 a0 x1 x2 M = some r) (H : Heap) (locs : List Loc) (ls : Array Slot) (hH : gH w n Rm M s H locs) (hl : lv_has ls 4 [(0, .ref (w.1 + a0)), (1, .int (gi x1)), (2, .int (gi x2))]), W p l e { frames := 15, cells := 0, slots := 0, locals := 842 } s m args below meth c H locs 0 0 (gQ w n Rm below args s 0 0 (.inr (some (.int (gi r.1)))) r.2 (gRI r.1)) (F0 m 110 ls []) := by
  intro a0 x1 x2 M r hg0 hr1 hr2 hf H locs ls hH hl
  unfold fX9_writeStacks_110 at hf
  refine lv_iconst (v := gi (0)) hM.fx.1 hM.fx.2.1 dX9_writeStacks_110 rfl ?_
  refine lv_istore_n (lv' := [(3, .int (gi 0)), (0, .ref (w.1 + a0)), (1, .int (gi x1)), (2, .int (gi x2))]) hM.fx.1 hM.fx.2.1 dX9_writeStacks_111 rfl hl (by decide) rfl (fun ls hl => ?_)
  exact wX9_writeStacks_112 hLC hM k12 hk12 gF _ _ _ _ _ _ hg0 hr1 hr2 (gcR (k := 0) (by decide)) hf _ _ _ hH (lv_sub hl [1, 2, 3, 0] rfl)
def fX9_writeStacks_92 (g : Nat → Nat) (k12 : Nat → Int → gMem → Option (Int × gMem)) (a0 : Nat) (x1 : Int) (x2 : Int) (as0 : Nat) (xs1 : Int) (M : gMem) : Option (Int × gMem) :=
  (fX9_writes g as0 xs1 M).bind fun M_2 => if x2 = (-1) then ((fX9_ofStack g a0 x1 3 M_2).bind fun x_5 => (fX9_writesNumber g 12 a0 x_5 M_2).bind fun M_7 => fX9_writeStacks_110 g k12 a0 x1 x2 M_7) else (fX9_writeStacks_110 g k12 a0 x1 x2 M_2)
set_option maxHeartbeats 4000000 in
set_option maxRecDepth 100000 in
theorem wX9_writeStacks_92 {w : gW} {n : Nat} {Rm : Nat → Nat → Nat} {g : Nat → Nat} (hLC : gLC g n Rm) {p : Program} {l : Launch} {e : Env} {s : State} {m : MethodId} {args : Array Value} {below : List Frame} {meth : Method} {c : Code} (hM : gMC w p l s m args meth c cX9_writeStacks 4 RX9 (some .int)) (k12 : Nat → Int → gMem → Option (Int × gMem)) (hk12 : ∀ (a0 : Nat) (x1 : Int) (M : gMem) (r : (Int × gMem)) (hg0 : g a0 = 9) (hr1 : gRI x1) (hf : k12 a0 x1 M = some r) (H : Heap) (locs : List Loc) (ls : Array Slot) (hH : gH w n Rm M s H locs) (hl : lv_has ls 4 [(0, .ref (w.1 + a0)), (1, .int (gi x1))]), W p l e { frames := 15, cells := 0, slots := 0, locals := 842 } s m args below meth c H locs 0 0 (gQ w n Rm below args s 0 0 (.inr (some (.int (gi r.1)))) r.2 (gRI r.1)) (F0 m 12 ls [])) : ∀ (a0 : Nat) (x1 : Int) (x2 : Int) (as0 : Nat) (xs1 : Int) (M : gMem) (r : (Int × gMem)) (hg0 : g a0 = 9) (hr1 : gRI x1) (hr2 : gRI x2) (hgs0 : g as0 = 9) (hrs1 : gRI xs1) (hf : fX9_writeStacks_92 g k12 a0 x1 x2 as0 xs1 M = some r) (H : Heap) (locs : List Loc) (ls : Array Slot) (hH : gH w n Rm M s H locs) (hl : lv_has ls 4 [(0, .ref (w.1 + a0)), (1, .int (gi x1)), (2, .int (gi x2))]), W p l e { frames := 15, cells := 0, slots := 0, locals := 842 } s m args below meth c H locs 0 0 (gQ w n Rm below args s 0 0 (.inr (some (.int (gi r.1)))) r.2 (gRI r.1)) (F0 m 92 ls [.int (gi xs1), .ref (w.1 + as0)]) := by
  intro a0 x1 x2 as0 xs1 M r hg0 hr1 hr2 hgs0 hrs1 hf H locs ls hH hl
  unfold fX9_writeStacks_92 at hf
  obtain ⟨M_2, eM_2, hf⟩ := gbd hf
  refine r_go0 hH rfl (r_runV (As := [.int (gi xs1)]) hM hH cv_X9_360 (mX9_writes hLC hM.ns hgs0 hrs1 eM_2) (hLC.in hgs0 (by decide)) (by decide) rfl rfl rfl hl.1 rfl (Nat.le_of_ble_eq_true rfl) ⟨(Nat.le_of_ble_eq_true rfl), (Nat.le_of_ble_eq_true rfl)⟩ ⟨(Nat.le_of_ble_eq_true rfl), (Nat.le_of_ble_eq_true rfl)⟩ dX9_writeStacks_92) (fun hp_1 H locs hH => ?_)
  refine lv_iload_n hM.fx.1 hM.fx.2.1 dX9_writeStacks_95 rfl (lv_at hl 2 rfl) ?_
  refine lv_iconst (v := gi (-1)) hM.fx.1 hM.fx.2.1 dX9_writeStacks_96 rfl ?_
  refine r_icmp_ne (tgt := 110) hM.fx hr2 (gcR (k := -1) (by decide)) dX9_writeStacks_97 (by decide) (fun h_3 => ?_) (fun h_3 => ?_)
  · have hf := gneg' h_3 hf
    exact wX9_writeStacks_110 hLC hM k12 hk12  _ _ _ _ _ hg0 hr1 hr2 hf _ _ _ hH hl
  · have hf := gpos h_3 hf
    refine lv_aload_n hM.fx.1 hM.fx.2.1 dX9_writeStacks_100 rfl (lv_at hl 0 rfl) ?_
    refine lv_aload_n hM.fx.1 hM.fx.2.1 dX9_writeStacks_101 rfl (lv_at hl 0 rfl) ?_
    refine lv_iload_n hM.fx.1 hM.fx.2.1 dX9_writeStacks_102 rfl (lv_at hl 1 rfl) ?_
    refine lv_iconst (v := gi (3)) hM.fx.1 hM.fx.2.1 dX9_writeStacks_103 rfl ?_
    obtain ⟨x_5, ex_5, hf⟩ := gbd hf
    refine r_go1 hH rfl (r_runV (As := [.int (gi x1), .int (gi 3)]) hM hH cv_X9_232 (mX9_ofStack hLC hM.ns hg0 hr1 (gcR (k := 3) (by decide)) ex_5) (hLC.in hg0 (by decide)) (by decide) rfl rfl rfl hl.1 rfl (Nat.le_of_ble_eq_true rfl) ⟨(Nat.le_of_ble_eq_true rfl), (Nat.le_of_ble_eq_true rfl)⟩ ⟨(Nat.le_of_ble_eq_true rfl), (Nat.le_of_ble_eq_true rfl)⟩ dX9_writeStacks_104) (fun hp_4 H locs hH => ?_)
    obtain ⟨M_7, eM_7, hf⟩ := gbd hf
    refine r_go0 hH rfl (r_runV (As := [.int (gi x_5)]) hM hH cv_X9_363 (mX9_writesNumber hLC hM.ns 12 hg0 hp_4 eM_7) (hLC.in hg0 (by decide)) (by decide) rfl rfl rfl hl.1 rfl (Nat.le_of_ble_eq_true rfl) ⟨(Nat.le_of_ble_eq_true rfl), (Nat.le_of_ble_eq_true rfl)⟩ ⟨(Nat.le_of_ble_eq_true rfl), (Nat.le_of_ble_eq_true rfl)⟩ dX9_writeStacks_107) (fun hp_6 H locs hH => ?_)
    exact wX9_writeStacks_110 hLC hM k12 hk12  _ _ _ _ _ hg0 hr1 hr2 hf _ _ _ hH hl
def fX9_writeStacks_54 (g : Nat → Nat) (k12 : Nat → Int → gMem → Option (Int × gMem)) (k34 : Nat → Int → Int → gMem → Option (Int × gMem)) (a0 : Nat) (x1 : Int) (x2 : Int) (M : gMem) : Option (Int × gMem) :=
  (fX9_ofStack g a0 x1 (gwi (5 + x2)) M).bind fun x_2 => (fX9_writesNumber g 12 a0 x_2 M).bind fun M_4 => gst (gwi (x2 + 1)) fun x_5 => k34 a0 x1 x_5 M_4
set_option maxHeartbeats 4000000 in
set_option maxRecDepth 100000 in
theorem wX9_writeStacks_54 {w : gW} {n : Nat} {Rm : Nat → Nat → Nat} {g : Nat → Nat} (hLC : gLC g n Rm) {p : Program} {l : Launch} {e : Env} {s : State} {m : MethodId} {args : Array Value} {below : List Frame} {meth : Method} {c : Code} (hM : gMC w p l s m args meth c cX9_writeStacks 4 RX9 (some .int)) (k12 : Nat → Int → gMem → Option (Int × gMem)) (hk12 : ∀ (a0 : Nat) (x1 : Int) (M : gMem) (r : (Int × gMem)) (hg0 : g a0 = 9) (hr1 : gRI x1) (hf : k12 a0 x1 M = some r) (H : Heap) (locs : List Loc) (ls : Array Slot) (hH : gH w n Rm M s H locs) (hl : lv_has ls 4 [(0, .ref (w.1 + a0)), (1, .int (gi x1))]), W p l e { frames := 15, cells := 0, slots := 0, locals := 842 } s m args below meth c H locs 0 0 (gQ w n Rm below args s 0 0 (.inr (some (.int (gi r.1)))) r.2 (gRI r.1)) (F0 m 12 ls [])) (k34 : Nat → Int → Int → gMem → Option (Int × gMem)) (hk34 : ∀ (a0 : Nat) (x1 : Int) (x2 : Int) (M : gMem) (r : (Int × gMem)) (hg0 : g a0 = 9) (hr1 : gRI x1) (hr2 : gRI x2) (hf : k34 a0 x1 x2 M = some r) (H : Heap) (locs : List Loc) (ls : Array Slot) (hH : gH w n Rm M s H locs) (hl : lv_has ls 4 [(0, .ref (w.1 + a0)), (1, .int (gi x1)), (2, .int (gi x2))]), W p l e { frames := 15, cells := 0, slots := 0, locals := 842 } s m args below meth c H locs 0 0 (gQ w n Rm below args s 0 0 (.inr (some (.int (gi r.1)))) r.2 (gRI r.1)) (F0 m 34 ls [])) : ∀ (a0 : Nat) (x1 : Int) (x2 : Int) (M : gMem) (r : (Int × gMem)) (hg0 : g a0 = 9) (hr1 : gRI x1) (hr2 : gRI x2) (hf : fX9_writeStacks_54 g k12 k34 a0 x1 x2 M = some r) (H : Heap) (locs : List Loc) (ls : Array Slot) (hH : gH w n Rm M s H locs) (hl : lv_has ls 4 [(0, .ref (w.1 + a0)), (1, .int (gi x1)), (2, .int (gi x2))]), W p l e { frames := 15, cells := 0, slots := 0, locals := 842 } s m args below meth c H locs 0 0 (gQ w n Rm below args s 0 0 (.inr (some (.int (gi r.1)))) r.2 (gRI r.1)) (F0 m 54 ls []) := by
  intro a0 x1 x2 M r hg0 hr1 hr2 hf H locs ls hH hl
  unfold fX9_writeStacks_54 at hf
  refine lv_aload_n hM.fx.1 hM.fx.2.1 dX9_writeStacks_54 rfl (lv_at hl 0 rfl) ?_
  refine lv_aload_n hM.fx.1 hM.fx.2.1 dX9_writeStacks_55 rfl (lv_at hl 0 rfl) ?_
  refine lv_iload_n hM.fx.1 hM.fx.2.1 dX9_writeStacks_56 rfl (lv_at hl 1 rfl) ?_
  refine lv_iconst (v := gi (5)) hM.fx.1 hM.fx.2.1 dX9_writeStacks_57 rfl ?_
  refine lv_iload_n hM.fx.1 hM.fx.2.1 dX9_writeStacks_58 rfl (lv_at hl 2 rfl) ?_
  refine r_iadd hM.fx dX9_writeStacks_59 ?_
  obtain ⟨x_2, ex_2, hf⟩ := gbd hf
  refine r_go1 hH rfl (r_runV (As := [.int (gi x1), .int (gi (gwi (5 + x2)))]) hM hH cv_X9_232 (mX9_ofStack hLC hM.ns hg0 hr1 (gwi_r _) ex_2) (hLC.in hg0 (by decide)) (by decide) rfl rfl rfl hl.1 rfl (Nat.le_of_ble_eq_true rfl) ⟨(Nat.le_of_ble_eq_true rfl), (Nat.le_of_ble_eq_true rfl)⟩ ⟨(Nat.le_of_ble_eq_true rfl), (Nat.le_of_ble_eq_true rfl)⟩ dX9_writeStacks_60) (fun hp_1 H locs hH => ?_)
  obtain ⟨M_4, eM_4, hf⟩ := gbd hf
  refine r_go0 hH rfl (r_runV (As := [.int (gi x_2)]) hM hH cv_X9_363 (mX9_writesNumber hLC hM.ns 12 hg0 hp_1 eM_4) (hLC.in hg0 (by decide)) (by decide) rfl rfl rfl hl.1 rfl (Nat.le_of_ble_eq_true rfl) ⟨(Nat.le_of_ble_eq_true rfl), (Nat.le_of_ble_eq_true rfl)⟩ ⟨(Nat.le_of_ble_eq_true rfl), (Nat.le_of_ble_eq_true rfl)⟩ dX9_writeStacks_63) (fun hp_3 H locs hH => ?_)
  obtain ⟨x_5, ex_5, hf⟩ := gst_s hf
  have hx_5 : gRI x_5 := by rw [ex_5]; exact gwi_r _
  refine r_iinc (lv' := [(2, .int (gi x_5)), (0, .ref (w.1 + a0)), (1, .int (gi x1))]) hM.fx dX9_writeStacks_66 hl (k := 2) rfl (by decide) (by rw [ex_5]; rfl) (fun ls hl => ?_)
  refine lv_goto (tgt := 34) hM.fx.1 hM.fx.2.1 dX9_writeStacks_69 (by decide) ?_
  exact hk34 _ _ _ _ _ hg0 hr1 hx_5 hf _ _ _ hH (lv_sub hl [1, 2, 0] rfl)
def fX9_writeStacks_34 (g : Nat → Nat) (k12 : Nat → Int → gMem → Option (Int × gMem)) : Nat → Nat → Int → Int → gMem → Option (Int × gMem)
  | 0, _, _, _, _ => none
  | fu + 1, a0, x1, x2, M => (fX9_ofStack g a0 x1 1 M).bind fun x_2 => if x_2 ≤ x2 then ((fX9_ofStack g a0 x1 2 M).bind fun x_5 => if x_5 = (-1) then (fX9_writeStacks_92 g k12 a0 x1 x_5 a0 35 M) else (fX9_writeStacks_92 g k12 a0 x1 x_5 a0 64 M)) else (if x2 ≤ 0 then (fX9_writeStacks_54 g k12 (fX9_writeStacks_34 g k12 fu) a0 x1 x2 M) else ((fX9_writes g a0 44 M).bind fun M_9 => fX9_writeStacks_54 g k12 (fX9_writeStacks_34 g k12 fu) a0 x1 x2 M_9))
set_option maxHeartbeats 4000000 in
set_option maxRecDepth 100000 in
theorem wX9_writeStacks_34 {w : gW} {n : Nat} {Rm : Nat → Nat → Nat} {g : Nat → Nat} (hLC : gLC g n Rm) {p : Program} {l : Launch} {e : Env} {s : State} {m : MethodId} {args : Array Value} {below : List Frame} {meth : Method} {c : Code} (hM : gMC w p l s m args meth c cX9_writeStacks 4 RX9 (some .int)) (k12 : Nat → Int → gMem → Option (Int × gMem)) (hk12 : ∀ (a0 : Nat) (x1 : Int) (M : gMem) (r : (Int × gMem)) (hg0 : g a0 = 9) (hr1 : gRI x1) (hf : k12 a0 x1 M = some r) (H : Heap) (locs : List Loc) (ls : Array Slot) (hH : gH w n Rm M s H locs) (hl : lv_has ls 4 [(0, .ref (w.1 + a0)), (1, .int (gi x1))]), W p l e { frames := 15, cells := 0, slots := 0, locals := 842 } s m args below meth c H locs 0 0 (gQ w n Rm below args s 0 0 (.inr (some (.int (gi r.1)))) r.2 (gRI r.1)) (F0 m 12 ls [])) : ∀ (fu : Nat), ∀ (a0 : Nat) (x1 : Int) (x2 : Int) (M : gMem) (r : (Int × gMem)) (hg0 : g a0 = 9) (hr1 : gRI x1) (hr2 : gRI x2) (hf : fX9_writeStacks_34 g k12 fu a0 x1 x2 M = some r) (H : Heap) (locs : List Loc) (ls : Array Slot) (hH : gH w n Rm M s H locs) (hl : lv_has ls 4 [(0, .ref (w.1 + a0)), (1, .int (gi x1)), (2, .int (gi x2))]), W p l e { frames := 15, cells := 0, slots := 0, locals := 842 } s m args below meth c H locs 0 0 (gQ w n Rm below args s 0 0 (.inr (some (.int (gi r.1)))) r.2 (gRI r.1)) (F0 m 34 ls []) := by
  intro fu
  induction fu with
  | zero =>
    intro a0 x1 x2 M r hg0 hr1 hr2 hf H locs ls hH hl
    exact absurd hf (by simp [fX9_writeStacks_34])
  | succ fu ih =>
    intro a0 x1 x2 M r hg0 hr1 hr2 hf H locs ls hH hl
    unfold fX9_writeStacks_34 at hf
    refine lv_iload_n hM.fx.1 hM.fx.2.1 dX9_writeStacks_34 rfl (lv_at hl 2 rfl) ?_
    refine lv_aload_n hM.fx.1 hM.fx.2.1 dX9_writeStacks_35 rfl (lv_at hl 0 rfl) ?_
    refine lv_iload_n hM.fx.1 hM.fx.2.1 dX9_writeStacks_36 rfl (lv_at hl 1 rfl) ?_
    refine lv_iconst (v := gi (1)) hM.fx.1 hM.fx.2.1 dX9_writeStacks_37 rfl ?_
    obtain ⟨x_2, ex_2, hf⟩ := gbd hf
    refine r_go1 hH rfl (r_runV (As := [.int (gi x1), .int (gi 1)]) hM hH cv_X9_232 (mX9_ofStack hLC hM.ns hg0 hr1 (gcR (k := 1) (by decide)) ex_2) (hLC.in hg0 (by decide)) (by decide) rfl rfl rfl hl.1 rfl (Nat.le_of_ble_eq_true rfl) ⟨(Nat.le_of_ble_eq_true rfl), (Nat.le_of_ble_eq_true rfl)⟩ ⟨(Nat.le_of_ble_eq_true rfl), (Nat.le_of_ble_eq_true rfl)⟩ dX9_writeStacks_38) (fun hp_1 H locs hH => ?_)
    refine r_icmp_ge (tgt := 72) hM.fx hr2 hp_1 dX9_writeStacks_41 (by decide) (fun h_3 => ?_) (fun h_3 => ?_)
    · have hf := gpos h_3 hf
      refine lv_aload_n hM.fx.1 hM.fx.2.1 dX9_writeStacks_72 rfl (lv_at hl 0 rfl) ?_
      refine lv_iload_n hM.fx.1 hM.fx.2.1 dX9_writeStacks_73 rfl (lv_at hl 1 rfl) ?_
      refine lv_iconst (v := gi (2)) hM.fx.1 hM.fx.2.1 dX9_writeStacks_74 rfl ?_
      obtain ⟨x_5, ex_5, hf⟩ := gbd hf
      refine r_go1 hH rfl (r_runV (As := [.int (gi x1), .int (gi 2)]) hM hH cv_X9_232 (mX9_ofStack hLC hM.ns hg0 hr1 (gcR (k := 2) (by decide)) ex_5) (hLC.in hg0 (by decide)) (by decide) rfl rfl rfl hl.1 rfl (Nat.le_of_ble_eq_true rfl) ⟨(Nat.le_of_ble_eq_true rfl), (Nat.le_of_ble_eq_true rfl)⟩ ⟨(Nat.le_of_ble_eq_true rfl), (Nat.le_of_ble_eq_true rfl)⟩ dX9_writeStacks_75) (fun hp_4 H locs hH => ?_)
      refine lv_istore_n (lv' := [(2, .int (gi x_5)), (0, .ref (w.1 + a0)), (1, .int (gi x1))]) hM.fx.1 hM.fx.2.1 dX9_writeStacks_78 rfl hl (by decide) rfl (fun ls hl => ?_)
      refine lv_aload_n hM.fx.1 hM.fx.2.1 dX9_writeStacks_79 rfl (lv_at hl 1 rfl) ?_
      refine lv_iload_n hM.fx.1 hM.fx.2.1 dX9_writeStacks_80 rfl (lv_at hl 0 rfl) ?_
      refine lv_iconst (v := gi (-1)) hM.fx.1 hM.fx.2.1 dX9_writeStacks_81 rfl ?_
      refine r_icmp_ne (tgt := 90) hM.fx hp_4 (gcR (k := -1) (by decide)) dX9_writeStacks_82 (by decide) (fun h_6 => ?_) (fun h_6 => ?_)
      · have hf := gneg' h_6 hf
        refine lv_bipush (v := gi (64)) hM.fx.1 hM.fx.2.1 dX9_writeStacks_90 (by decide) ?_
        exact wX9_writeStacks_92 hLC hM k12 hk12  _ _ _ _ _ _ _ hg0 hr1 hp_4 hg0 (gcR (k := 64) (by decide)) hf _ _ _ hH (lv_sub hl [1, 2, 0] rfl)
      · have hf := gpos h_6 hf
        refine lv_bipush (v := gi (35)) hM.fx.1 hM.fx.2.1 dX9_writeStacks_85 (by decide) ?_
        refine lv_goto (tgt := 92) hM.fx.1 hM.fx.2.1 dX9_writeStacks_87 (by decide) ?_
        exact wX9_writeStacks_92 hLC hM k12 hk12  _ _ _ _ _ _ _ hg0 hr1 hp_4 hg0 (gcR (k := 35) (by decide)) hf _ _ _ hH (lv_sub hl [1, 2, 0] rfl)
    · have hf := gneg' h_3 hf
      refine lv_iload_n hM.fx.1 hM.fx.2.1 dX9_writeStacks_44 rfl (lv_at hl 2 rfl) ?_
      refine r_if_le (tgt := 54) hM.fx hr2 dX9_writeStacks_45 (by decide) (fun h_7 => ?_) (fun h_7 => ?_)
      · have hf := gpos h_7 hf
        exact wX9_writeStacks_54 hLC hM k12 hk12 (fX9_writeStacks_34 g k12 fu) ih  _ _ _ _ _ hg0 hr1 hr2 hf _ _ _ hH hl
      · have hf := gneg' h_7 hf
        refine lv_aload_n hM.fx.1 hM.fx.2.1 dX9_writeStacks_48 rfl (lv_at hl 0 rfl) ?_
        refine lv_bipush (v := gi (44)) hM.fx.1 hM.fx.2.1 dX9_writeStacks_49 (by decide) ?_
        obtain ⟨M_9, eM_9, hf⟩ := gbd hf
        refine r_go0 hH rfl (r_runV (As := [.int (gi 44)]) hM hH cv_X9_360 (mX9_writes hLC hM.ns hg0 (gcR (k := 44) (by decide)) eM_9) (hLC.in hg0 (by decide)) (by decide) rfl rfl rfl hl.1 rfl (Nat.le_of_ble_eq_true rfl) ⟨(Nat.le_of_ble_eq_true rfl), (Nat.le_of_ble_eq_true rfl)⟩ ⟨(Nat.le_of_ble_eq_true rfl), (Nat.le_of_ble_eq_true rfl)⟩ dX9_writeStacks_51) (fun hp_8 H locs hH => ?_)
        exact wX9_writeStacks_54 hLC hM k12 hk12 (fX9_writeStacks_34 g k12 fu) ih  _ _ _ _ _ hg0 hr1 hr2 hf _ _ _ hH hl
def fX9_writeStacks_32 (g : Nat → Nat) (k12 : Nat → Int → gMem → Option (Int × gMem)) (a0 : Nat) (x1 : Int) (M : gMem) : Option (Int × gMem) :=
  fX9_writeStacks_34 g k12 gF a0 x1 0 M
set_option maxHeartbeats 4000000 in
set_option maxRecDepth 100000 in
theorem wX9_writeStacks_32 {w : gW} {n : Nat} {Rm : Nat → Nat → Nat} {g : Nat → Nat} (hLC : gLC g n Rm) {p : Program} {l : Launch} {e : Env} {s : State} {m : MethodId} {args : Array Value} {below : List Frame} {meth : Method} {c : Code} (hM : gMC w p l s m args meth c cX9_writeStacks 4 RX9 (some .int)) (k12 : Nat → Int → gMem → Option (Int × gMem)) (hk12 : ∀ (a0 : Nat) (x1 : Int) (M : gMem) (r : (Int × gMem)) (hg0 : g a0 = 9) (hr1 : gRI x1) (hf : k12 a0 x1 M = some r) (H : Heap) (locs : List Loc) (ls : Array Slot) (hH : gH w n Rm M s H locs) (hl : lv_has ls 4 [(0, .ref (w.1 + a0)), (1, .int (gi x1))]), W p l e { frames := 15, cells := 0, slots := 0, locals := 842 } s m args below meth c H locs 0 0 (gQ w n Rm below args s 0 0 (.inr (some (.int (gi r.1)))) r.2 (gRI r.1)) (F0 m 12 ls [])) : ∀ (a0 : Nat) (x1 : Int) (M : gMem) (r : (Int × gMem)) (hg0 : g a0 = 9) (hr1 : gRI x1) (hf : fX9_writeStacks_32 g k12 a0 x1 M = some r) (H : Heap) (locs : List Loc) (ls : Array Slot) (hH : gH w n Rm M s H locs) (hl : lv_has ls 4 [(0, .ref (w.1 + a0)), (1, .int (gi x1))]), W p l e { frames := 15, cells := 0, slots := 0, locals := 842 } s m args below meth c H locs 0 0 (gQ w n Rm below args s 0 0 (.inr (some (.int (gi r.1)))) r.2 (gRI r.1)) (F0 m 32 ls []) := by
  intro a0 x1 M r hg0 hr1 hf H locs ls hH hl
  unfold fX9_writeStacks_32 at hf
  refine lv_iconst (v := gi (0)) hM.fx.1 hM.fx.2.1 dX9_writeStacks_32 rfl ?_
  refine lv_istore_n (lv' := [(2, .int (gi 0)), (0, .ref (w.1 + a0)), (1, .int (gi x1))]) hM.fx.1 hM.fx.2.1 dX9_writeStacks_33 rfl hl (by decide) rfl (fun ls hl => ?_)
  exact wX9_writeStacks_34 hLC hM k12 hk12 gF _ _ _ _ _ hg0 hr1 (gcR (k := 0) (by decide)) hf _ _ _ hH (lv_sub hl [1, 2, 0] rfl)
def fX9_writeStacks_12 (g : Nat → Nat)  : Nat → Nat → Int → gMem → Option (Int × gMem)
  | 0, _, _, _ => none
  | fu + 1, a0, x1, M => if (0 : Int) ≤ 2 ∧ (2 : Int) < 1190 then if M (a0 + 1) (2 : Int).toNat ≤ x1 then (some (M a0 19, M)) else (if x1 ≤ 0 then (fX9_writeStacks_32 g (fX9_writeStacks_12 g fu) a0 x1 M) else ((fX9_writes g a0 32 M).bind fun M_7 => fX9_writeStacks_32 g (fX9_writeStacks_12 g fu) a0 x1 M_7)) else none
set_option maxHeartbeats 4000000 in
set_option maxRecDepth 100000 in
theorem wX9_writeStacks_12 {w : gW} {n : Nat} {Rm : Nat → Nat → Nat} {g : Nat → Nat} (hLC : gLC g n Rm) {p : Program} {l : Launch} {e : Env} {s : State} {m : MethodId} {args : Array Value} {below : List Frame} {meth : Method} {c : Code} (hM : gMC w p l s m args meth c cX9_writeStacks 4 RX9 (some .int))  : ∀ (fu : Nat), ∀ (a0 : Nat) (x1 : Int) (M : gMem) (r : (Int × gMem)) (hg0 : g a0 = 9) (hr1 : gRI x1) (hf : fX9_writeStacks_12 g fu a0 x1 M = some r) (H : Heap) (locs : List Loc) (ls : Array Slot) (hH : gH w n Rm M s H locs) (hl : lv_has ls 4 [(0, .ref (w.1 + a0)), (1, .int (gi x1))]), W p l e { frames := 15, cells := 0, slots := 0, locals := 842 } s m args below meth c H locs 0 0 (gQ w n Rm below args s 0 0 (.inr (some (.int (gi r.1)))) r.2 (gRI r.1)) (F0 m 12 ls []) := by
  intro fu
  induction fu with
  | zero =>
    intro a0 x1 M r hg0 hr1 hf H locs ls hH hl
    exact absurd hf (by simp [fX9_writeStacks_12])
  | succ fu ih =>
    intro a0 x1 M r hg0 hr1 hf H locs ls hH hl
    unfold fX9_writeStacks_12 at hf
    refine lv_iload_n hM.fx.1 hM.fx.2.1 dX9_writeStacks_12 rfl (lv_at hl 1 rfl) ?_
    refine lv_aload_n hM.fx.1 hM.fx.2.1 dX9_writeStacks_13 rfl (lv_at hl 0 rfl) ?_
    refine r_getR hM.fx hM.kf hH hLC fl_X9_7 hg0 gch_9_0 dX9_writeStacks_14 ?_
    refine lv_iconst (v := gi (2)) hM.fx.1 hM.fx.2.1 dX9_writeStacks_17 rfl ?_
    obtain ⟨g_1, hf⟩ := gif hf
    refine r_iald hM.fx hM.kf hH (hLC.in (hLC.ch hg0 (by decide) gch_9_0) (by decide)) (⟨by decide, by decide⟩ : gAr 19056 0) (gcR (k := 2) (by decide)) g_1 dX9_writeStacks_18 ?_
    have hr_2 := hH.2.2.i (k := (2 : Int).toNat) (hLC.in (hLC.ch hg0 (by decide) gch_9_0) (by decide)).2.2 (glg_a (⟨by decide, by decide⟩ : gAr 19056 0))
    refine r_icmp_ge (tgt := 160) hM.fx hr1 hr_2 dX9_writeStacks_19 (by decide) (fun h_3 => ?_) (fun h_3 => ?_)
    · have hf := gpos h_3 hf
      refine lv_aload_n hM.fx.1 hM.fx.2.1 dX9_writeStacks_160 rfl (lv_at hl 0 rfl) ?_
      refine r_getI hM.fx hM.kf hH fl_X9_357 (hLC.in hg0 (by decide)) dX9_writeStacks_161 ?_
      have hr_4 := hH.2.2.i (hLC.in hg0 (by decide)).2.2 (by decide : glg 9 19 = false)
      obtain rfl := Option.some.inj hf
      exact r_iret hM hH hr_4 ⟨(Nat.le_of_ble_eq_true rfl), (Nat.le_of_ble_eq_true rfl)⟩ dX9_writeStacks_164
    · have hf := gneg' h_3 hf
      refine lv_iload_n hM.fx.1 hM.fx.2.1 dX9_writeStacks_22 rfl (lv_at hl 1 rfl) ?_
      refine r_if_le (tgt := 32) hM.fx hr1 dX9_writeStacks_23 (by decide) (fun h_5 => ?_) (fun h_5 => ?_)
      · have hf := gpos h_5 hf
        exact wX9_writeStacks_32 hLC hM (fX9_writeStacks_12 g fu) ih  _ _ _ _ hg0 hr1 hf _ _ _ hH hl
      · have hf := gneg' h_5 hf
        refine lv_aload_n hM.fx.1 hM.fx.2.1 dX9_writeStacks_26 rfl (lv_at hl 0 rfl) ?_
        refine lv_bipush (v := gi (32)) hM.fx.1 hM.fx.2.1 dX9_writeStacks_27 (by decide) ?_
        obtain ⟨M_7, eM_7, hf⟩ := gbd hf
        refine r_go0 hH rfl (r_runV (As := [.int (gi 32)]) hM hH cv_X9_360 (mX9_writes hLC hM.ns hg0 (gcR (k := 32) (by decide)) eM_7) (hLC.in hg0 (by decide)) (by decide) rfl rfl rfl hl.1 rfl (Nat.le_of_ble_eq_true rfl) ⟨(Nat.le_of_ble_eq_true rfl), (Nat.le_of_ble_eq_true rfl)⟩ ⟨(Nat.le_of_ble_eq_true rfl), (Nat.le_of_ble_eq_true rfl)⟩ dX9_writeStacks_29) (fun hp_6 H locs hH => ?_)
        exact wX9_writeStacks_32 hLC hM (fX9_writeStacks_12 g fu) ih  _ _ _ _ hg0 hr1 hf _ _ _ hH hl
def fX9_writeStacks (g : Nat → Nat) (a0 : Nat) (M : gMem) : Option (Int × gMem) :=
  gst (gup M a0 7 0) fun M_1 => gst (gup M_1 a0 19 0) fun M_2 => fX9_writeStacks_12 g gF a0 0 M_2
set_option maxHeartbeats 4000000 in
set_option maxRecDepth 100000 in
theorem mX9_writeStacks {w : gW} {n : Nat} {Rm : Nat → Nat → Nat} {g : Nat → Nat} (hLC : gLC g n Rm) {l : Launch} (hl9 : l.stackTraces = false) {a0 : Nat} {M : gMem} {r : (Int × gMem)} (hg0 : g a0 = 9) (hf : fX9_writeStacks g a0 M = some r) : gMT w n Rm l yX9_writeStacks cX9_writeStacks 4 (some .int) 15 842 0 0 [.ref (w.1 + a0)] M (.inr (some (.int (gi r.1)))) r.2 (gRI r.1) := by
  unfold fX9_writeStacks at hf
  refine gMT.of hl9 (by decide +kernel) ((Nat.le_of_ble_eq_true rfl)) ?_
  intro p e s m below meth c hM hH ls hl
  have hM : gMC w p l s m ([.ref (w.1 + a0)] : List Value).toArray meth c cX9_writeStacks 4 RX9 (some .int) := hM
  have hl : lv_has ls 4 [(0, .ref (w.1 + a0))] := hl
  refine lv_aload_n hM.fx.1 hM.fx.2.1 dX9_writeStacks_0 rfl (lv_at hl 0 rfl) ?_
  refine lv_iconst (v := gi (0)) hM.fx.1 hM.fx.2.1 dX9_writeStacks_1 rfl ?_
  refine r_putI hM.fx hM.kf hH fp_X9_46 (hLC.in hg0 (by decide)) (gcR (k := 0) (by decide)) dX9_writeStacks_2 (fun H locs hH => ?_)
  obtain ⟨M_1, eM_1, hf⟩ := gst_s hf
  rw [← eM_1] at hH
  refine lv_aload_n hM.fx.1 hM.fx.2.1 dX9_writeStacks_5 rfl (lv_at hl 0 rfl) ?_
  refine lv_iconst (v := gi (0)) hM.fx.1 hM.fx.2.1 dX9_writeStacks_6 rfl ?_
  refine r_putI hM.fx hM.kf hH fp_X9_357 (hLC.in hg0 (by decide)) (gcR (k := 0) (by decide)) dX9_writeStacks_7 (fun H locs hH => ?_)
  obtain ⟨M_2, eM_2, hf⟩ := gst_s hf
  rw [← eM_2] at hH
  refine lv_iconst (v := gi (0)) hM.fx.1 hM.fx.2.1 dX9_writeStacks_10 rfl ?_
  refine lv_istore_n (lv' := [(1, .int (gi 0)), (0, .ref (w.1 + a0))]) hM.fx.1 hM.fx.2.1 dX9_writeStacks_11 rfl hl (by decide) rfl (fun ls hl => ?_)
  exact wX9_writeStacks_12 hLC hM  gF _ _ _ _ hg0 (gcR (k := 0) (by decide)) hf _ _ _ hH (lv_sub hl [1, 0] rfl)
def fX9_writtenByte_20 (g : Nat → Nat)  (a0 : Nat) (x1 : Int) (as0 : Nat) (xs1 : Int) (M : gMem) : Option (Int × gMem) :=
  gst (gup M as0 7 xs1) fun M_1 => if M_1 a0 7 ≤ 0 then (if (0 : Int) ≤ x1 ∧ (x1 : Int) < 2400 then some (M_1 (a0 + 8) x1.toNat, M_1) else none) else (some (0, M_1))
set_option maxHeartbeats 4000000 in
set_option maxRecDepth 100000 in
theorem wX9_writtenByte_20 {w : gW} {n : Nat} {Rm : Nat → Nat → Nat} {g : Nat → Nat} (hLC : gLC g n Rm) {p : Program} {l : Launch} {e : Env} {s : State} {m : MethodId} {args : Array Value} {below : List Frame} {meth : Method} {c : Code} (hM : gMC w p l s m args meth c cX9_writtenByte 2 RX9 (some .int))  : ∀ (a0 : Nat) (x1 : Int) (as0 : Nat) (xs1 : Int) (M : gMem) (r : (Int × gMem)) (hg0 : g a0 = 9) (hr1 : gRI x1) (hgs0 : g as0 = 9) (hrs1 : gRI xs1) (hf : fX9_writtenByte_20 g a0 x1 as0 xs1 M = some r) (H : Heap) (locs : List Loc) (ls : Array Slot) (hH : gH w n Rm M s H locs) (hl : lv_has ls 2 [(0, .ref (w.1 + a0)), (1, .int (gi x1))]), W p l e { frames := 2, cells := 0, slots := 0, locals := 82 } s m args below meth c H locs 0 0 (gQ w n Rm below args s 0 0 (.inr (some (.int (gi r.1)))) r.2 (gRI r.1)) (F0 m 20 ls [.int (gi xs1), .ref (w.1 + as0)]) := by
  intro a0 x1 as0 xs1 M r hg0 hr1 hgs0 hrs1 hf H locs ls hH hl
  unfold fX9_writtenByte_20 at hf
  refine r_putI hM.fx hM.kf hH fp_X9_46 (hLC.in hgs0 (by decide)) hrs1 dX9_writtenByte_20 (fun H locs hH => ?_)
  obtain ⟨M_1, eM_1, hf⟩ := gst_s hf
  rw [← eM_1] at hH
  refine lv_aload_n hM.fx.1 hM.fx.2.1 dX9_writtenByte_23 rfl (lv_at hl 0 rfl) ?_
  refine r_getI hM.fx hM.kf hH fl_X9_46 (hLC.in hg0 (by decide)) dX9_writtenByte_24 ?_
  have hr_2 := hH.2.2.i (hLC.in hg0 (by decide)).2.2 (by decide : glg 9 7 = false)
  refine r_if_le (tgt := 34) hM.fx hr_2 dX9_writtenByte_27 (by decide) (fun h_3 => ?_) (fun h_3 => ?_)
  · have hf := gpos h_3 hf
    refine lv_aload_n hM.fx.1 hM.fx.2.1 dX9_writtenByte_34 rfl (lv_at hl 0 rfl) ?_
    refine r_getR hM.fx hM.kf hH hLC fl_X9_36 hg0 gch_9_18 dX9_writtenByte_35 ?_
    refine lv_iload_n hM.fx.1 hM.fx.2.1 dX9_writtenByte_38 rfl (lv_at hl 1 rfl) ?_
    obtain ⟨g_4, hf⟩ := gif hf
    refine r_iald hM.fx hM.kf hH (hLC.in (hLC.ch hg0 (by decide) gch_9_18) (by decide)) (⟨by decide, by decide⟩ : gAr 38416 0) hr1 g_4 dX9_writtenByte_39 ?_
    have hr_5 := hH.2.2.i (k := x1.toNat) (hLC.in (hLC.ch hg0 (by decide) gch_9_18) (by decide)).2.2 (glg_a (⟨by decide, by decide⟩ : gAr 38416 0))
    obtain rfl := Option.some.inj hf
    exact r_iret hM hH hr_5 ⟨(Nat.le_of_ble_eq_true rfl), (Nat.le_of_ble_eq_true rfl)⟩ dX9_writtenByte_40
  · have hf := gneg' h_3 hf
    refine lv_iconst (v := gi (0)) hM.fx.1 hM.fx.2.1 dX9_writtenByte_30 rfl ?_
    refine lv_goto (tgt := 40) hM.fx.1 hM.fx.2.1 dX9_writtenByte_31 (by decide) ?_
    obtain rfl := Option.some.inj hf
    exact r_iret hM hH (gcR (k := 0) (by decide)) ⟨(Nat.le_of_ble_eq_true rfl), (Nat.le_of_ble_eq_true rfl)⟩ dX9_writtenByte_40
def fX9_writtenByte (g : Nat → Nat) (a0 : Nat) (x1 : Int) (M : gMem) : Option (Int × gMem) :=
  (fX9_isIn g x1 0 (gwi (M a0 19 - 1))).bind fun x_3 => if x_3 = 0 then (fX9_writtenByte_20 g a0 x1 a0 1 M) else (fX9_writtenByte_20 g a0 x1 a0 0 M)
set_option maxHeartbeats 4000000 in
set_option maxRecDepth 100000 in
theorem mX9_writtenByte {w : gW} {n : Nat} {Rm : Nat → Nat → Nat} {g : Nat → Nat} (hLC : gLC g n Rm) {l : Launch} (hl9 : l.stackTraces = false) {a0 : Nat} {x1 : Int} {M : gMem} {r : (Int × gMem)} (hg0 : g a0 = 9) (hr1 : gRI x1) (hf : fX9_writtenByte g a0 x1 M = some r) : gMT w n Rm l yX9_writtenByte cX9_writtenByte 2 (some .int) 2 82 0 0 [.ref (w.1 + a0), .int (gi x1)] M (.inr (some (.int (gi r.1)))) r.2 (gRI r.1) := by
  unfold fX9_writtenByte at hf
  refine gMT.of hl9 (by decide +kernel) ((Nat.le_of_ble_eq_true rfl)) ?_
  intro p e s m below meth c hM hH ls hl
  have hM : gMC w p l s m ([.ref (w.1 + a0), .int (gi x1)] : List Value).toArray meth c cX9_writtenByte 2 RX9 (some .int) := hM
  have hl : lv_has ls 2 [(0, .ref (w.1 + a0)), (1, .int (gi x1))] := hl
  refine lv_aload_n hM.fx.1 hM.fx.2.1 dX9_writtenByte_0 rfl (lv_at hl 0 rfl) ?_
  refine lv_iload_n hM.fx.1 hM.fx.2.1 dX9_writtenByte_1 rfl (lv_at hl 1 rfl) ?_
  refine lv_iconst (v := gi (0)) hM.fx.1 hM.fx.2.1 dX9_writtenByte_2 rfl ?_
  refine lv_aload_n hM.fx.1 hM.fx.2.1 dX9_writtenByte_3 rfl (lv_at hl 0 rfl) ?_
  refine r_getI hM.fx hM.kf hH fl_X9_357 (hLC.in hg0 (by decide)) dX9_writtenByte_4 ?_
  have hr_1 := hH.2.2.i (hLC.in hg0 (by decide)).2.2 (by decide : glg 9 19 = false)
  refine lv_iconst (v := gi (1)) hM.fx.1 hM.fx.2.1 dX9_writtenByte_7 rfl ?_
  refine r_isub hM.fx dX9_writtenByte_8 ?_
  obtain ⟨x_3, ex_3, hf⟩ := gbd hf
  refine r_go1 hH rfl (r_runS (As := [.int (gi x1), .int (gi 0), .int (gi (gwi (M a0 19 - 1)))]) hM hH cs_X9_56 (mX9_isIn hLC hM.ns hr1 (gcR (k := 0) (by decide)) (gwi_r _) ex_3) rfl hl.1 rfl (Nat.le_of_ble_eq_true rfl) ⟨(Nat.le_of_ble_eq_true rfl), (Nat.le_of_ble_eq_true rfl)⟩ ⟨(Nat.le_of_ble_eq_true rfl), (Nat.le_of_ble_eq_true rfl)⟩ dX9_writtenByte_9) (fun hp_2 H locs hH => ?_)
  refine r_if_eq (tgt := 19) hM.fx (gz_r hp_2) dX9_writtenByte_12 (by decide) (fun h_4 => ?_) (fun h_4 => ?_)
  · have hf := gpos h_4 hf
    refine lv_iconst (v := gi (1)) hM.fx.1 hM.fx.2.1 dX9_writtenByte_19 rfl ?_
    exact wX9_writtenByte_20 hLC hM   _ _ _ _ _ _ hg0 hr1 hg0 (gcR (k := 1) (by decide)) hf _ _ _ hH hl
  · have hf := gneg' h_4 hf
    refine lv_iconst (v := gi (0)) hM.fx.1 hM.fx.2.1 dX9_writtenByte_15 rfl ?_
    refine lv_goto (tgt := 20) hM.fx.1 hM.fx.2.1 dX9_writtenByte_16 (by decide) ?_
    exact wX9_writtenByte_20 hLC hM   _ _ _ _ _ _ hg0 hr1 hg0 (gcR (k := 0) (by decide)) hf _ _ _ hH hl
