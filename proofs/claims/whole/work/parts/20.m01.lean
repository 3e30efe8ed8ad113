def fX0_nextProc_52 (g : Nat → Nat) (k7 : Nat → Int → Int → gMem → Option Int) (a0 : Nat) (x1 : Int) (x2 : Int) (M : gMem) : Option Int :=
  gst (gwi (x2 + 1)) fun x_1 => k7 a0 x1 x_1 M
set_option maxHeartbeats 4000000 in
set_option maxRecDepth 100000 in
theorem wX0_nextProc_52 {w : gW} {n : Nat} {Rm : Nat → Nat → Nat} {g : Nat → Nat} (hLC : gLC g n Rm) {p : Program} {l : Launch} {e : Env} {s : State} {m : MethodId} {args : Array Value} {below : List Frame} {meth : Method} {c : Code} (hM : gMC w p l s m args meth c cX0_nextProc 4 RX0 (some .int)) (k7 : Nat → Int → Int → gMem → Option Int) (hk7 : ∀ (a0 : Nat) (x1 : Int) (x2 : Int) (M : gMem) (r : Int) (hg0 : g a0 = 1) (hr1 : gRI x1) (hr2 : gRI x2) (hf : k7 a0 x1 x2 M = some r) (H : Heap) (locs : List Loc) (ls : Array Slot) (hH : gH w n Rm M s H locs) (hl : lv_has ls 4 [(0, .ref (w.1 + a0)), (1, .int (gi x1)), (2, .int (gi x2))]), W p l e { frames := 2, cells := 0, slots := 0, locals := 81 } s m args below meth c H locs 0 0 (gQ w n Rm below args s 0 0 (.inr (some (.int (gi r)))) M (gRI r)) (F0 m 7 ls [])) : ∀ (a0 : Nat) (x1 : Int) (x2 : Int) (M : gMem) (r : Int) (hg0 : g a0 = 1) (hr1 : gRI x1) (hr2 : gRI x2) (hf : fX0_nextProc_52 g k7 a0 x1 x2 M = some r) (H : Heap) (locs : List Loc) (ls : Array Slot) (hH : gH w n Rm M s H locs) (hl : lv_has ls 4 [(0, .ref (w.1 + a0)), (1, .int (gi x1)), (2, .int (gi x2))]), W p l e { frames := 2, cells := 0, slots := 0, locals := 81 } s m args below meth c H locs 0 0 (gQ w n Rm below args s 0 0 (.inr (some (.int (gi r)))) M (gRI r)) (F0 m 52 ls []) := by
  intro a0 x1 x2 M r hg0 hr1 hr2 hf H locs ls hH hl
  unfold fX0_nextProc_52 at hf
  obtain ⟨x_1, ex_1, hf⟩ := gst_s hf
  have hx_1 : gRI x_1 := by rw [ex_1]; exact gwi_r _
  refine r_iinc (lv' := [(2, .int (gi x_1)), (0, .ref (w.1 + a0)), (1, .int (gi x1))]) hM.fx dX0_nextProc_52 hl (k := 2) rfl (by decide) (by rw [ex_1]; rfl) (fun ls hl => ?_)
  refine lv_goto (tgt := 7) hM.fx.1 hM.fx.2.1 dX0_nextProc_55 (by decide) ?_
  exact hk7 _ _ _ _ _ hg0 hr1 hx_1 hf _ _ _ hH (lv_sub hl [1, 2, 0] rfl)
def fX0_nextProc_32 (g : Nat → Nat) (k7 : Nat → Int → Int → gMem → Option Int) (a0 : Nat) (x2 : Int) (xs0 : Int) (M : gMem) : Option Int :=
  (fX0_procAt g a0 xs0 M).bind fun a_2 => if a_2 = 0 then (fX0_nextProc_52 g k7 a0 xs0 x2 M) else (if M a_2 8 = 0 then (some xs0) else (fX0_nextProc_52 g k7 a0 xs0 x2 M))
set_option maxHeartbeats 4000000 in
set_option maxRecDepth 100000 in
theorem wX0_nextProc_32 {w : gW} {n : Nat} {Rm : Nat → Nat → Nat} {g : Nat → Nat} (hLC : gLC g n Rm) {p : Program} {l : Launch} {e : Env} {s : State} {m : MethodId} {args : Array Value} {below : List Frame} {meth : Method} {c : Code} (hM : gMC w p l s m args meth c cX0_nextProc 4 RX0 (some .int)) (k7 : Nat → Int → Int → gMem → Option Int) (hk7 : ∀ (a0 : Nat) (x1 : Int) (x2 : Int) (M : gMem) (r : Int) (hg0 : g a0 = 1) (hr1 : gRI x1) (hr2 : gRI x2) (hf : k7 a0 x1 x2 M = some r) (H : Heap) (locs : List Loc) (ls : Array Slot) (hH : gH w n Rm M s H locs) (hl : lv_has ls 4 [(0, .ref (w.1 + a0)), (1, .int (gi x1)), (2, .int (gi x2))]), W p l e { frames := 2, cells := 0, slots := 0, locals := 81 } s m args below meth c H locs 0 0 (gQ w n Rm below args s 0 0 (.inr (some (.int (gi r)))) M (gRI r)) (F0 m 7 ls [])) : ∀ (a0 : Nat) (x2 : Int) (xs0 : Int) (M : gMem) (r : Int) (hg0 : g a0 = 1) (hr2 : gRI x2) (hrs0 : gRI xs0) (hf : fX0_nextProc_32 g k7 a0 x2 xs0 M = some r) (H : Heap) (locs : List Loc) (ls : Array Slot) (hH : gH w n Rm M s H locs) (hl : lv_has ls 4 [(0, .ref (w.1 + a0)), (2, .int (gi x2))]), W p l e { frames := 2, cells := 0, slots := 0, locals := 81 } s m args below meth c H locs 0 0 (gQ w n Rm below args s 0 0 (.inr (some (.int (gi r)))) M (gRI r)) (F0 m 32 ls [.int (gi xs0)]) := by
  intro a0 x2 xs0 M r hg0 hr2 hrs0 hf H locs ls hH hl
  unfold fX0_nextProc_32 at hf
  refine lv_istore_n (lv' := [(1, .int (gi xs0)), (0, .ref (w.1 + a0)), (2, .int (gi x2))]) hM.fx.1 hM.fx.2.1 dX0_nextProc_32 rfl hl (by decide) rfl (fun ls hl => ?_)
  refine lv_aload_n hM.fx.1 hM.fx.2.1 dX0_nextProc_33 rfl (lv_at hl 1 rfl) ?_
  refine lv_iload_n hM.fx.1 hM.fx.2.1 dX0_nextProc_34 rfl (lv_at hl 0 rfl) ?_
  obtain ⟨a_2, ea_2, hf⟩ := gbd hf
  refine r_go1 hH rfl (r_runV (As := [.int (gi xs0)]) hM hH cv_X0_113 (mX0_procAt hLC hM.ns hg0 hrs0 ea_2) (hLC.in hg0 (by decide)) (by decide) rfl rfl rfl hl.1 rfl (Nat.le_of_ble_eq_true rfl) ⟨(Nat.le_of_ble_eq_true rfl), (Nat.le_of_ble_eq_true rfl)⟩ ⟨(Nat.le_of_ble_eq_true rfl), (Nat.le_of_ble_eq_true rfl)⟩ dX0_nextProc_35) (fun hp_1 H locs hH => ?_)
  refine r_astore_nV (lv' := [(3, gvR w a_2), (1, .int (gi xs0)), (0, .ref (w.1 + a0)), (2, .int (gi x2))]) hM.fx dX0_nextProc_38 rfl hl (by decide) rfl (fun ls hl => ?_)
  refine r_aload_nV hM.fx dX0_nextProc_39 rfl (lv_at hl 0 rfl) ?_
  refine r_ifnull (tgt := 52) hM.fx dX0_nextProc_40 (by decide) (fun h_3 => ?_) (fun h_3 => ?_)
  · have hf := gpos h_3 hf
    exact wX0_nextProc_52 hLC hM k7 hk7  _ _ _ _ _ hg0 hrs0 hr2 hf _ _ _ hH (lv_sub hl [2, 1, 3] rfl)
  · have hf := gneg' h_3 hf
    rw [gvR_nn h_3] at hl
    refine lv_aload_n hM.fx.1 hM.fx.2.1 dX0_nextProc_43 rfl (lv_at hl 0 rfl) ?_
    refine r_getI hM.fx hM.kf hH fl_X0_95 (hLC.in (hp_1 h_3) (by decide)) dX0_nextProc_44 ?_
    have hr_4 := hH.2.2.i (hLC.in (hp_1 h_3) (by decide)).2.2 (by decide : glg 5 8 = false)
    refine r_if_ne (tgt := 52) hM.fx hr_4 dX0_nextProc_47 (by decide) (fun h_5 => ?_) (fun h_5 => ?_)
    · have hf := gneg' h_5 hf
      exact wX0_nextProc_52 hLC hM k7 hk7  _ _ _ _ _ hg0 hrs0 hr2 hf _ _ _ hH (lv_sub hl [2, 1, 3] rfl)
    · have hf := gpos h_5 hf
      refine lv_iload_n hM.fx.1 hM.fx.2.1 dX0_nextProc_50 rfl (lv_at hl 1 rfl) ?_
      obtain rfl := Option.some.inj hf
      exact r_iret hM hH hrs0 ⟨(Nat.le_of_ble_eq_true rfl), (Nat.le_of_ble_eq_true rfl)⟩ dX0_nextProc_51
def fX0_nextProc_7 (g : Nat → Nat)  : Nat → Nat → Int → Int → gMem → Option Int
  | 0, _, _, _, _ => none
  | fu + 1, a0, x1, x2, M => if M a0 5 ≤ x2 then (some (-1)) else (if M a0 5 ≤ gwi (x1 + 1) then (fX0_nextProc_32 g (fX0_nextProc_7 g fu) a0 x2 0 M) else (fX0_nextProc_32 g (fX0_nextProc_7 g fu) a0 x2 (gwi (x1 + 1)) M))
set_option maxHeartbeats 4000000 in
set_option maxRecDepth 100000 in
theorem wX0_nextProc_7 {w : gW} {n : Nat} {Rm : Nat → Nat → Nat} {g : Nat → Nat} (hLC : gLC g n Rm) {p : Program} {l : Launch} {e : Env} {s : State} {m : MethodId} {args : Array Value} {below : List Frame} {meth : Method} {c : Code} (hM : gMC w p l s m args meth c cX0_nextProc 4 RX0 (some .int))  : ∀ (fu : Nat), ∀ (a0 : Nat) (x1 : Int) (x2 : Int) (M : gMem) (r : Int) (hg0 : g a0 = 1) (hr1 : gRI x1) (hr2 : gRI x2) (hf : fX0_nextProc_7 g fu a0 x1 x2 M = some r) (H : Heap) (locs : List Loc) (ls : Array Slot) (hH : gH w n Rm M s H locs) (hl : lv_has ls 4 [(0, .ref (w.1 + a0)), (1, .int (gi x1)), (2, .int (gi x2))]), W p l e { frames := 2, cells := 0, slots := 0, locals := 81 } s m args below meth c H locs 0 0 (gQ w n Rm below args s 0 0 (.inr (some (.int (gi r)))) M (gRI r)) (F0 m 7 ls []) := by
  intro fu
  induction fu with
  | zero =>
    intro a0 x1 x2 M r hg0 hr1 hr2 hf H locs ls hH hl
    exact absurd hf (by simp [fX0_nextProc_7])
  | succ fu ih =>
    intro a0 x1 x2 M r hg0 hr1 hr2 hf H locs ls hH hl
    unfold fX0_nextProc_7 at hf
    refine lv_iload_n hM.fx.1 hM.fx.2.1 dX0_nextProc_7 rfl (lv_at hl 2 rfl) ?_
    refine lv_aload_n hM.fx.1 hM.fx.2.1 dX0_nextProc_8 rfl (lv_at hl 0 rfl) ?_
    refine r_getI hM.fx hM.kf hH fl_X0_43 (hLC.in hg0 (by decide)) dX0_nextProc_9 ?_
    have hr_1 := hH.2.2.i (hLC.in hg0 (by decide)).2.2 (by decide : glg 1 5 = false)
    refine r_icmp_ge (tgt := 58) hM.fx hr2 hr_1 dX0_nextProc_12 (by decide) (fun h_2 => ?_) (fun h_2 => ?_)
    · have hf := gpos h_2 hf
      refine lv_iconst (v := gi (-1)) hM.fx.1 hM.fx.2.1 dX0_nextProc_58 rfl ?_
      obtain rfl := Option.some.inj hf
      exact r_iret hM hH (gcR (k := -1) (by decide)) ⟨(Nat.le_of_ble_eq_true rfl), (Nat.le_of_ble_eq_true rfl)⟩ dX0_nextProc_59
    · have hf := gneg' h_2 hf
      refine lv_iload_n hM.fx.1 hM.fx.2.1 dX0_nextProc_15 rfl (lv_at hl 1 rfl) ?_
      refine lv_iconst (v := gi (1)) hM.fx.1 hM.fx.2.1 dX0_nextProc_16 rfl ?_
      refine r_iadd hM.fx dX0_nextProc_17 ?_
      refine lv_aload_n hM.fx.1 hM.fx.2.1 dX0_nextProc_18 rfl (lv_at hl 0 rfl) ?_
      refine r_getI hM.fx hM.kf hH fl_X0_43 (hLC.in hg0 (by decide)) dX0_nextProc_19 ?_
      have hr_3 := hH.2.2.i (hLC.in hg0 (by decide)).2.2 (by decide : glg 1 5 = false)
      refine r_icmp_ge (tgt := 31) hM.fx (gwi_r _) hr_3 dX0_nextProc_22 (by decide) (fun h_4 => ?_) (fun h_4 => ?_)
      · have hf := gpos h_4 hf
        refine lv_iconst (v := gi (0)) hM.fx.1 hM.fx.2.1 dX0_nextProc_31 rfl ?_
        exact wX0_nextProc_32 hLC hM (fX0_nextProc_7 g fu) ih  _ _ _ _ _ hg0 hr2 (gcR (k := 0) (by decide)) hf _ _ _ hH (lv_sub hl [0, 2] rfl)
      · have hf := gneg' h_4 hf
        refine lv_iload_n hM.fx.1 hM.fx.2.1 dX0_nextProc_25 rfl (lv_at hl 1 rfl) ?_
        refine lv_iconst (v := gi (1)) hM.fx.1 hM.fx.2.1 dX0_nextProc_26 rfl ?_
        refine r_iadd hM.fx dX0_nextProc_27 ?_
        refine lv_goto (tgt := 32) hM.fx.1 hM.fx.2.1 dX0_nextProc_28 (by decide) ?_
        exact wX0_nextProc_32 hLC hM (fX0_nextProc_7 g fu) ih  _ _ _ _ _ hg0 hr2 (gwi_r _) hf _ _ _ hH (lv_sub hl [0, 2] rfl)
def fX0_nextProc (g : Nat → Nat) (a0 : Nat) (M : gMem) : Option Int :=
  gst (M a0 8) fun x_2 => fX0_nextProc_7 g gF a0 x_2 0 M
set_option maxHeartbeats 4000000 in
set_option maxRecDepth 100000 in
theorem mX0_nextProc {w : gW} {n : Nat} {Rm : Nat → Nat → Nat} {g : Nat → Nat} (hLC : gLC g n Rm) {l : Launch} (hl9 : l.stackTraces = false) {a0 : Nat} {M : gMem} {r : Int} (hg0 : g a0 = 1) (hf : fX0_nextProc g a0 M = some r) : gMT w n Rm l yX0_nextProc cX0_nextProc 4 (some .int) 2 81 0 0 [.ref (w.1 + a0)] M (.inr (some (.int (gi r)))) M (gRI r) := by
  unfold fX0_nextProc at hf
  refine gMT.of hl9 (by decide +kernel) ((Nat.le_of_ble_eq_true rfl)) ?_
  intro p e s m below meth c hM hH ls hl
  have hM : gMC w p l s m ([.ref (w.1 + a0)] : List Value).toArray meth c cX0_nextProc 4 RX0 (some .int) := hM
  have hl : lv_has ls 4 [(0, .ref (w.1 + a0))] := hl
  refine lv_aload_n hM.fx.1 hM.fx.2.1 dX0_nextProc_0 rfl (lv_at hl 0 rfl) ?_
  refine r_getI hM.fx hM.kf hH fl_X0_52 (hLC.in hg0 (by decide)) dX0_nextProc_1 ?_
  have hr_1 := hH.2.2.i (hLC.in hg0 (by decide)).2.2 (by decide : glg 1 8 = false)
  obtain ⟨x_2, ex_2, hf⟩ := gst_s hf
  refine W.eq (g2 := F0 m _ ls (.int (gi x_2) :: _)) (by rw [ex_2]) ?_
  have hx_2 : gRI x_2 := by rw [ex_2]; exact hr_1
  refine lv_istore_n (lv' := [(1, .int (gi x_2)), (0, .ref (w.1 + a0))]) hM.fx.1 hM.fx.2.1 dX0_nextProc_4 rfl hl (by decide) rfl (fun ls hl => ?_)
  refine lv_iconst (v := gi (0)) hM.fx.1 hM.fx.2.1 dX0_nextProc_5 rfl ?_
  refine lv_istore_n (lv' := [(2, .int (gi 0)), (1, .int (gi x_2)), (0, .ref (w.1 + a0))]) hM.fx.1 hM.fx.2.1 dX0_nextProc_6 rfl hl (by decide) rfl (fun ls hl => ?_)
  exact wX0_nextProc_7 hLC hM  gF _ _ _ _ _ hg0 hx_2 (gcR (k := 0) (by decide)) hf _ _ _ hH (lv_sub hl [2, 1, 0] rfl)
def fX1_remember_32 (g : Nat → Nat)  (a0 : Nat) (M : gMem) : Option gMem :=
  gst (gup M a0 2 ((gwi (M a0 2 + 1)).tmod 8)) fun M_2 => gst (gup M_2 a0 1 (gmin (gwi (M_2 a0 1 + 1)) 8)) fun M_4 => some M_4
set_option maxHeartbeats 4000000 in
set_option maxRecDepth 100000 in
theorem wX1_remember_32 {w : gW} {n : Nat} {Rm : Nat → Nat → Nat} {g : Nat → Nat} (hLC : gLC g n Rm) {p : Program} {l : Launch} {e : Env} {s : State} {m : MethodId} {args : Array Value} {below : List Frame} {meth : Method} {c : Code} (hM : gMC w p l s m args meth c cX1_remember 2 RX1 none)  : ∀ (a0 : Nat) (M : gMem) (r : gMem) (hg0 : g a0 = 2) (hf : fX1_remember_32 g a0 M = some r) (H : Heap) (locs : List Loc) (ls : Array Slot) (hH : gH w n Rm M s H locs) (hl : lv_has ls 2 [(0, .ref (w.1 + a0))]), W p l e { frames := 3, cells := 0, slots := 0, locals := 103 } s m args below meth c H locs 0 0 (gQ w n Rm below args s 0 0 (.inr none) r True) (F0 m 32 ls []) := by
  intro a0 M r hg0 hf H locs ls hH hl
  unfold fX1_remember_32 at hf
  refine lv_aload_n hM.fx.1 hM.fx.2.1 dX1_remember_32 rfl (lv_at hl 0 rfl) ?_
  refine lv_aload_n hM.fx.1 hM.fx.2.1 dX1_remember_33 rfl (lv_at hl 0 rfl) ?_
  refine r_getI hM.fx hM.kf hH fl_X1_18 (hLC.in hg0 (by decide)) dX1_remember_34 ?_
  have hr_1 := hH.2.2.i (hLC.in hg0 (by decide)).2.2 (by decide : glg 2 2 = false)
  refine lv_iconst (v := gi (1)) hM.fx.1 hM.fx.2.1 dX1_remember_37 rfl ?_
  refine r_iadd hM.fx dX1_remember_38 ?_
  refine lv_bipush (v := gi (8)) hM.fx.1 hM.fx.2.1 dX1_remember_39 (by decide) ?_
  refine r_irem hM.fx (gwi_r _) (gcR (k := 8) (by decide)) (by decide) dX1_remember_41 ?_
  refine r_putI hM.fx hM.kf hH fp_X1_18 (hLC.in hg0 (by decide)) (gtmod_r (gwi_r _)) dX1_remember_42 (fun H locs hH => ?_)
  obtain ⟨M_2, eM_2, hf⟩ := gst_s hf
  rw [← eM_2] at hH
  refine lv_aload_n hM.fx.1 hM.fx.2.1 dX1_remember_45 rfl (lv_at hl 0 rfl) ?_
  refine lv_aload_n hM.fx.1 hM.fx.2.1 dX1_remember_46 rfl (lv_at hl 0 rfl) ?_
  refine r_getI hM.fx hM.kf hH fl_X1_26 (hLC.in hg0 (by decide)) dX1_remember_47 ?_
  have hr_3 := hH.2.2.i (hLC.in hg0 (by decide)).2.2 (by decide : glg 2 1 = false)
  refine lv_iconst (v := gi (1)) hM.fx.1 hM.fx.2.1 dX1_remember_50 rfl ?_
  refine r_iadd hM.fx dX1_remember_51 ?_
  refine lv_bipush (v := gi (8)) hM.fx.1 hM.fx.2.1 dX1_remember_52 (by decide) ?_
  refine r_mmin hM.fx hl.1 ⟨gw_666, gw_445, gw_105, gw_446⟩ ⟨(Nat.le_of_ble_eq_true rfl), (Nat.le_of_ble_eq_true rfl)⟩ ⟨(Nat.le_of_ble_eq_true rfl), (Nat.le_of_ble_eq_true rfl)⟩ (gwi_r _) (gcR (k := 8) (by decide)) dX1_remember_54 ?_
  refine r_putI hM.fx hM.kf hH fp_X1_26 (hLC.in hg0 (by decide)) (gmin_r (gwi_r _) (gcR (k := 8) (by decide))) dX1_remember_57 (fun H locs hH => ?_)
  obtain ⟨M_4, eM_4, hf⟩ := gst_s hf
  rw [← eM_4] at hH
  obtain rfl := Option.some.inj hf
  exact r_vret hM hH trivial ⟨(Nat.le_of_ble_eq_true rfl), (Nat.le_of_ble_eq_true rfl)⟩ dX1_remember_60
def fX1_remember (g : Nat → Nat) (a0 : Nat) (a1 : Nat) (M : gMem) : Option gMem :=
  if M a0 2 < 0 then (fX1_remember_32 g a0 M) else (if 8 ≤ M a0 2 then (fX1_remember_32 g a0 M) else (if (0 : Int) ≤ M a0 2 ∧ (M a0 2 : Int) < 8 then (fX0_copyFrom g (a0 + 1 + (1 + 65 * (M a0 2).toNat)) a1 M).bind fun M_8 => fX1_remember_32 g a0 M_8 else none))
set_option maxHeartbeats 4000000 in
set_option maxRecDepth 100000 in
theorem mX1_remember {w : gW} {n : Nat} {Rm : Nat → Nat → Nat} {g : Nat → Nat} (hLC : gLC g n Rm) {l : Launch} (hl9 : l.stackTraces = false) {a0 : Nat} {a1 : Nat} {M : gMem} {r : gMem} (hg0 : g a0 = 2) (hg1 : g a1 = 1) (hf : fX1_remember g a0 a1 M = some r) : gMT w n Rm l yX1_remember cX1_remember 2 none 3 103 0 0 [.ref (w.1 + a0), .ref (w.1 + a1)] M (.inr none) r True := by
  unfold fX1_remember at hf
  refine gMT.of hl9 (by decide +kernel) ((Nat.le_of_ble_eq_true rfl)) ?_
  intro p e s m below meth c hM hH ls hl
  have hM : gMC w p l s m ([.ref (w.1 + a0), .ref (w.1 + a1)] : List Value).toArray meth c cX1_remember 2 RX1 none := hM
  have hl : lv_has ls 2 [(0, .ref (w.1 + a0)), (1, .ref (w.1 + a1))] := hl
  refine lv_aload_n hM.fx.1 hM.fx.2.1 dX1_remember_0 rfl (lv_at hl 0 rfl) ?_
  refine r_getI hM.fx hM.kf hH fl_X1_18 (hLC.in hg0 (by decide)) dX1_remember_1 ?_
  have hr_1 := hH.2.2.i (hLC.in hg0 (by decide)).2.2 (by decide : glg 2 2 = false)
  refine r_if_lt (tgt := 32) hM.fx hr_1 dX1_remember_4 (by decide) (fun h_2 => ?_) (fun h_2 => ?_)
  · have hf := gpos h_2 hf
    exact wX1_remember_32 hLC hM   _ _ _ hg0 hf _ _ _ hH (lv_sub hl [0] rfl)
  · have hf := gneg' h_2 hf
    refine lv_aload_n hM.fx.1 hM.fx.2.1 dX1_remember_7 rfl (lv_at hl 0 rfl) ?_
    refine r_getI hM.fx hM.kf hH fl_X1_18 (hLC.in hg0 (by decide)) dX1_remember_8 ?_
    have hr_3 := hH.2.2.i (hLC.in hg0 (by decide)).2.2 (by decide : glg 2 2 = false)
    refine lv_aload_n hM.fx.1 hM.fx.2.1 dX1_remember_11 rfl (lv_at hl 0 rfl) ?_
    refine r_getR hM.fx hM.kf hH hLC fl_X1_11 hg0 gch_2_0 dX1_remember_12 ?_
    refine r_alen hM.fx hM.kf hH 6 rfl (hLC.in (hLC.ch hg0 (by decide) gch_2_0) (by decide)) (⟨by decide, by decide⟩ : gAr 150 6) rfl dX1_remember_15 ?_
    refine r_icmp_ge (tgt := 32) hM.fx hr_3 (gcR (k := 8) (by decide)) dX1_remember_16 (by decide) (fun h_4 => ?_) (fun h_4 => ?_)
    · have hf := gpos h_4 hf
      exact wX1_remember_32 hLC hM   _ _ _ hg0 hf _ _ _ hH (lv_sub hl [0] rfl)
    · have hf := gneg' h_4 hf
      refine lv_aload_n hM.fx.1 hM.fx.2.1 dX1_remember_19 rfl (lv_at hl 0 rfl) ?_
      refine r_getR hM.fx hM.kf hH hLC fl_X1_11 hg0 gch_2_0 dX1_remember_20 ?_
      refine lv_aload_n hM.fx.1 hM.fx.2.1 dX1_remember_23 rfl (lv_at hl 0 rfl) ?_
      refine r_getI hM.fx hM.kf hH fl_X1_18 (hLC.in hg0 (by decide)) dX1_remember_24 ?_
      have hr_5 := hH.2.2.i (hLC.in hg0 (by decide)).2.2 (by decide : glg 2 2 = false)
      obtain ⟨g_6, hf⟩ := gif hf
      refine r_aald hM.fx hM.kf hH hLC 6 rfl (by decide) (hLC.ch hg0 (by decide) gch_2_0) (⟨by decide, by decide⟩ : gAr 150 6) hr_5 g_6 (gch_150 (k := (M a0 2).toNat) (by omega)) dX1_remember_27 ?_
      refine lv_aload_n hM.fx.1 hM.fx.2.1 dX1_remember_28 rfl (lv_at hl 1 rfl) ?_
      obtain ⟨M_8, eM_8, hf⟩ := gbd hf
      refine r_go0 hH rfl (r_runV (As := [.ref (w.1 + a1)]) hM hH cv_X1_22 (mX0_copyFrom hLC hM.ns (hLC.ch (hLC.ch hg0 (by decide) gch_2_0) (by decide) (gch_150 (k := (M a0 2).toNat) (by omega))) hg1 eM_8) (hLC.in (hLC.ch (hLC.ch hg0 (by decide) gch_2_0) (by decide) (gch_150 (k := (M a0 2).toNat) (by omega))) (by decide)) (by decide) rfl rfl rfl hl.1 rfl (Nat.le_of_ble_eq_true rfl) ⟨(Nat.le_of_ble_eq_true rfl), (Nat.le_of_ble_eq_true rfl)⟩ ⟨(Nat.le_of_ble_eq_true rfl), (Nat.le_of_ble_eq_true rfl)⟩ dX1_remember_29) (fun hp_7 H locs hH => ?_)
      exact wX1_remember_32 hLC hM   _ _ _ hg0 hf _ _ _ hH (lv_sub hl [0] rfl)
def fX1_bringBack (g : Nat → Nat) (a0 : Nat) (a1 : Nat) (M : gMem) : Option gMem :=
  if 0 < M a0 1 then (gst (gup M a0 2 ((gwi (gwi (M a0 2 + 8) - 1)).tmod 8)) fun M_4 => gst (gup M_4 a0 1 (gwi (M_4 a0 1 - 1))) fun M_6 => if M_6 a0 2 < 0 then (some M_6) else (if 8 ≤ M_6 a0 2 then (some M_6) else (if (0 : Int) ≤ M_6 a0 2 ∧ (M_6 a0 2 : Int) < 8 then (fX0_copyFrom g a1 (a0 + 1 + (1 + 65 * (M_6 a0 2).toNat)) M_6).bind fun M_14 => some M_14 else none))) else (some M)
set_option maxHeartbeats 4000000 in
set_option maxRecDepth 100000 in
theorem mX1_bringBack {w : gW} {n : Nat} {Rm : Nat → Nat → Nat} {g : Nat → Nat} (hLC : gLC g n Rm) {l : Launch} (hl9 : l.stackTraces = false) {a0 : Nat} {a1 : Nat} {M : gMem} {r : gMem} (hg0 : g a0 = 2) (hg1 : g a1 = 1) (hf : fX1_bringBack g a0 a1 M = some r) : gMT w n Rm l yX1_bringBack cX1_bringBack 2 none 3 103 0 0 [.ref (w.1 + a0), .ref (w.1 + a1)] M (.inr none) r True := by
  unfold fX1_bringBack at hf
  refine gMT.of hl9 (by decide +kernel) ((Nat.le_of_ble_eq_true rfl)) ?_
  intro p e s m below meth c hM hH ls hl
  have hM : gMC w p l s m ([.ref (w.1 + a0), .ref (w.1 + a1)] : List Value).toArray meth c cX1_bringBack 2 RX1 none := hM
  have hl : lv_has ls 2 [(0, .ref (w.1 + a0)), (1, .ref (w.1 + a1))] := hl
  refine lv_aload_n hM.fx.1 hM.fx.2.1 dX1_bringBack_0 rfl (lv_at hl 0 rfl) ?_
  refine r_getI hM.fx hM.kf hH fl_X1_26 (hLC.in hg0 (by decide)) dX1_bringBack_1 ?_
  have hr_1 := hH.2.2.i (hLC.in hg0 (by decide)).2.2 (by decide : glg 2 1 = false)
  refine r_if_gt (tgt := 8) hM.fx hr_1 dX1_bringBack_4 (by decide) (fun h_2 => ?_) (fun h_2 => ?_)
  · have hf := gpos h_2 hf
    refine lv_aload_n hM.fx.1 hM.fx.2.1 dX1_bringBack_8 rfl (lv_at hl 0 rfl) ?_
    refine lv_aload_n hM.fx.1 hM.fx.2.1 dX1_bringBack_9 rfl (lv_at hl 0 rfl) ?_
    refine r_getI hM.fx hM.kf hH fl_X1_18 (hLC.in hg0 (by decide)) dX1_bringBack_10 ?_
    have hr_3 := hH.2.2.i (hLC.in hg0 (by decide)).2.2 (by decide : glg 2 2 = false)
    refine lv_bipush (v := gi (8)) hM.fx.1 hM.fx.2.1 dX1_bringBack_13 (by decide) ?_
    refine r_iadd hM.fx dX1_bringBack_15 ?_
    refine lv_iconst (v := gi (1)) hM.fx.1 hM.fx.2.1 dX1_bringBack_16 rfl ?_
    refine r_isub hM.fx dX1_bringBack_17 ?_
    refine lv_bipush (v := gi (8)) hM.fx.1 hM.fx.2.1 dX1_bringBack_18 (by decide) ?_
    refine r_irem hM.fx (gwi_r _) (gcR (k := 8) (by decide)) (by decide) dX1_bringBack_20 ?_
    refine r_putI hM.fx hM.kf hH fp_X1_18 (hLC.in hg0 (by decide)) (gtmod_r (gwi_r _)) dX1_bringBack_21 (fun H locs hH => ?_)
    obtain ⟨M_4, eM_4, hf⟩ := gst_s hf
    rw [← eM_4] at hH
    refine lv_aload_n hM.fx.1 hM.fx.2.1 dX1_bringBack_24 rfl (lv_at hl 0 rfl) ?_
    refine lv_dup hM.fx.1 hM.fx.2.1 dX1_bringBack_25 rfl ?_
    refine r_getI hM.fx hM.kf hH fl_X1_26 (hLC.in hg0 (by decide)) dX1_bringBack_26 ?_
    have hr_5 := hH.2.2.i (hLC.in hg0 (by decide)).2.2 (by decide : glg 2 1 = false)
    refine lv_iconst (v := gi (1)) hM.fx.1 hM.fx.2.1 dX1_bringBack_29 rfl ?_
    refine r_isub hM.fx dX1_bringBack_30 ?_
    refine r_putI hM.fx hM.kf hH fp_X1_26 (hLC.in hg0 (by decide)) (gwi_r _) dX1_bringBack_31 (fun H locs hH => ?_)
    obtain ⟨M_6, eM_6, hf⟩ := gst_s hf
    rw [← eM_6] at hH
    refine lv_aload_n hM.fx.1 hM.fx.2.1 dX1_bringBack_34 rfl (lv_at hl 0 rfl) ?_
    refine r_getI hM.fx hM.kf hH fl_X1_18 (hLC.in hg0 (by decide)) dX1_bringBack_35 ?_
    have hr_7 := hH.2.2.i (hLC.in hg0 (by decide)).2.2 (by decide : glg 2 2 = false)
    refine r_if_lt (tgt := 66) hM.fx hr_7 dX1_bringBack_38 (by decide) (fun h_8 => ?_) (fun h_8 => ?_)
    · have hf := gpos h_8 hf
      obtain rfl := Option.some.inj hf
      exact r_vret hM hH trivial ⟨(Nat.le_of_ble_eq_true rfl), (Nat.le_of_ble_eq_true rfl)⟩ dX1_bringBack_66
    · have hf := gneg' h_8 hf
      refine lv_aload_n hM.fx.1 hM.fx.2.1 dX1_bringBack_41 rfl (lv_at hl 0 rfl) ?_
      refine r_getI hM.fx hM.kf hH fl_X1_18 (hLC.in hg0 (by decide)) dX1_bringBack_42 ?_
      have hr_9 := hH.2.2.i (hLC.in hg0 (by decide)).2.2 (by decide : glg 2 2 = false)
      refine lv_aload_n hM.fx.1 hM.fx.2.1 dX1_bringBack_45 rfl (lv_at hl 0 rfl) ?_
      refine r_getR hM.fx hM.kf hH hLC fl_X1_11 hg0 gch_2_0 dX1_bringBack_46 ?_
      refine r_alen hM.fx hM.kf hH 6 rfl (hLC.in (hLC.ch hg0 (by decide) gch_2_0) (by decide)) (⟨by decide, by decide⟩ : gAr 150 6) rfl dX1_bringBack_49 ?_
      refine r_icmp_ge (tgt := 66) hM.fx hr_9 (gcR (k := 8) (by decide)) dX1_bringBack_50 (by decide) (fun h_10 => ?_) (fun h_10 => ?_)
      · have hf := gpos h_10 hf
        obtain rfl := Option.some.inj hf
        exact r_vret hM hH trivial ⟨(Nat.le_of_ble_eq_true rfl), (Nat.le_of_ble_eq_true rfl)⟩ dX1_bringBack_66
      · have hf := gneg' h_10 hf
        refine lv_aload_n hM.fx.1 hM.fx.2.1 dX1_bringBack_53 rfl (lv_at hl 1 rfl) ?_
        refine lv_aload_n hM.fx.1 hM.fx.2.1 dX1_bringBack_54 rfl (lv_at hl 0 rfl) ?_
        refine r_getR hM.fx hM.kf hH hLC fl_X1_11 hg0 gch_2_0 dX1_bringBack_55 ?_
        refine lv_aload_n hM.fx.1 hM.fx.2.1 dX1_bringBack_58 rfl (lv_at hl 0 rfl) ?_
        refine r_getI hM.fx hM.kf hH fl_X1_18 (hLC.in hg0 (by decide)) dX1_bringBack_59 ?_
        have hr_11 := hH.2.2.i (hLC.in hg0 (by decide)).2.2 (by decide : glg 2 2 = false)
        obtain ⟨g_12, hf⟩ := gif hf
        refine r_aald hM.fx hM.kf hH hLC 6 rfl (by decide) (hLC.ch hg0 (by decide) gch_2_0) (⟨by decide, by decide⟩ : gAr 150 6) hr_11 g_12 (gch_150 (k := (M_6 a0 2).toNat) (by omega)) dX1_bringBack_62 ?_
        obtain ⟨M_14, eM_14, hf⟩ := gbd hf
        refine r_go0 hH rfl (r_runV (As := [.ref (w.1 + (a0 + 1 + (1 + 65 * (M_6 a0 2).toNat)))]) hM hH cv_X1_22 (mX0_copyFrom hLC hM.ns hg1 (hLC.ch (hLC.ch hg0 (by decide) gch_2_0) (by decide) (gch_150 (k := (M_6 a0 2).toNat) (by omega))) eM_14) (hLC.in hg1 (by decide)) (by decide) rfl rfl rfl hl.1 rfl (Nat.le_of_ble_eq_true rfl) ⟨(Nat.le_of_ble_eq_true rfl), (Nat.le_of_ble_eq_true rfl)⟩ ⟨(Nat.le_of_ble_eq_true rfl), (Nat.le_of_ble_eq_true rfl)⟩ dX1_bringBack_63) (fun hp_13 H locs hH => ?_)
        obtain rfl := Option.some.inj hf
        exact r_vret hM hH trivial ⟨(Nat.le_of_ble_eq_true rfl), (Nat.le_of_ble_eq_true rfl)⟩ dX1_bringBack_66
  · have hf := gneg' h_2 hf
    obtain rfl := Option.some.inj hf
    exact r_vret hM hH trivial ⟨(Nat.le_of_ble_eq_true rfl), (Nat.le_of_ble_eq_true rfl)⟩ dX1_bringBack_7
def fX2_size (g : Nat → Nat) (a0 : Nat) (M : gMem) : Option Int :=
  some (gmin (M a0 4) 40)
set_option maxHeartbeats 4000000 in
set_option maxRecDepth 100000 in
theorem mX2_size {w : gW} {n : Nat} {Rm : Nat → Nat → Nat} {g : Nat → Nat} (hLC : gLC g n Rm) {l : Launch} (hl9 : l.stackTraces = false) {a0 : Nat} {M : gMem} {r : Int} (hg0 : g a0 = 3) (hf : fX2_size g a0 M = some r) : gMT w n Rm l yX2_size cX2_size 1 (some .int) 1 60 0 0 [.ref (w.1 + a0)] M (.inr (some (.int (gi r)))) M (gRI r) := by
  unfold fX2_size at hf
  refine gMT.of hl9 (by decide +kernel) ((Nat.le_of_ble_eq_true rfl)) ?_
  intro p e s m below meth c hM hH ls hl
  have hM : gMC w p l s m ([.ref (w.1 + a0)] : List Value).toArray meth c cX2_size 1 RX2 (some .int) := hM
  have hl : lv_has ls 1 [(0, .ref (w.1 + a0))] := hl
  refine lv_aload_n hM.fx.1 hM.fx.2.1 dX2_size_0 rfl (lv_at hl 0 rfl) ?_
  refine r_getI hM.fx hM.kf hH fl_X2_30 (hLC.in hg0 (by decide)) dX2_size_1 ?_
  have hr_1 := hH.2.2.i (hLC.in hg0 (by decide)).2.2 (by decide : glg 3 4 = false)
  refine lv_bipush (v := gi (40)) hM.fx.1 hM.fx.2.1 dX2_size_4 (by decide) ?_
  refine r_mmin hM.fx hl.1 ⟨gw_933, gw_445, gw_105, gw_446⟩ ⟨(Nat.le_of_ble_eq_true rfl), (Nat.le_of_ble_eq_true rfl)⟩ ⟨(Nat.le_of_ble_eq_true rfl), (Nat.le_of_ble_eq_true rfl)⟩ hr_1 (gcR (k := 40) (by decide)) dX2_size_6 ?_
  obtain rfl := Option.some.inj hf
  exact r_iret hM hH (gmin_r hr_1 (gcR (k := 40) (by decide))) ⟨(Nat.le_of_ble_eq_true rfl), (Nat.le_of_ble_eq_true rfl)⟩ dX2_size_9
def fX2_add_54 (g : Nat → Nat)  (a0 : Nat) (M : gMem) : Option gMem :=
  gst (gup M a0 4 (gwi (M a0 4 + 1))) fun M_2 => some M_2
set_option maxHeartbeats 4000000 in
set_option maxRecDepth 100000 in
theorem wX2_add_54 {w : gW} {n : Nat} {Rm : Nat → Nat → Nat} {g : Nat → Nat} (hLC : gLC g n Rm) {p : Program} {l : Launch} {e : Env} {s : State} {m : MethodId} {args : Array Value} {below : List Frame} {meth : Method} {c : Code} (hM : gMC w p l s m args meth c cX2_add 6 RX2 none)  : ∀ (a0 : Nat) (M : gMem) (r : gMem) (hg0 : g a0 = 3) (hf : fX2_add_54 g a0 M = some r) (H : Heap) (locs : List Loc) (ls : Array Slot) (hH : gH w n Rm M s H locs) (hl : lv_has ls 6 [(0, .ref (w.1 + a0))]), W p l e { frames := 1, cells := 0, slots := 0, locals := 60 } s m args below meth c H locs 0 0 (gQ w n Rm below args s 0 0 (.inr none) r True) (F0 m 54 ls []) := by
  intro a0 M r hg0 hf H locs ls hH hl
  unfold fX2_add_54 at hf
  refine lv_aload_n hM.fx.1 hM.fx.2.1 dX2_add_54 rfl (lv_at hl 0 rfl) ?_
  refine lv_dup hM.fx.1 hM.fx.2.1 dX2_add_55 rfl ?_
  refine r_getI hM.fx hM.kf hH fl_X2_30 (hLC.in hg0 (by decide)) dX2_add_56 ?_
  have hr_1 := hH.2.2.i (hLC.in hg0 (by decide)).2.2 (by decide : glg 3 4 = false)
  refine lv_iconst (v := gi (1)) hM.fx.1 hM.fx.2.1 dX2_add_59 rfl ?_
  refine r_iadd hM.fx dX2_add_60 ?_
  refine r_putI hM.fx hM.kf hH fp_X2_30 (hLC.in hg0 (by decide)) (gwi_r _) dX2_add_61 (fun H locs hH => ?_)
  obtain ⟨M_2, eM_2, hf⟩ := gst_s hf
  rw [← eM_2] at hH
  obtain rfl := Option.some.inj hf
  exact r_vret hM hH trivial ⟨(Nat.le_of_ble_eq_true rfl), (Nat.le_of_ble_eq_true rfl)⟩ dX2_add_64
def fX2_add (g : Nat → Nat) (a0 : Nat) (x1 : Int) (x2 : Int) (x3 : Int) (x4 : Int) (M : gMem) : Option gMem :=
  gst ((M a0 4).tmod 40) fun x_2 => if x_2 < 0 then (fX2_add_54 g a0 M) else (if 40 ≤ x_2 then (fX2_add_54 g a0 M) else (if (0 : Int) ≤ x_2 ∧ (x_2 : Int) < 40 then gst (gup M (a0 + 1) x_2.toNat x1) fun M_6 => if (0 : Int) ≤ x_2 ∧ (x_2 : Int) < 40 then gst (gup M_6 (a0 + 2) x_2.toNat x2) fun M_8 => if (0 : Int) ≤ x_2 ∧ (x_2 : Int) < 40 then gst (gup M_8 (a0 + 3) x_2.toNat x3) fun M_10 => if (0 : Int) ≤ x_2 ∧ (x_2 : Int) < 40 then gst (gup M_10 (a0 + 4) x_2.toNat x4) fun M_12 => fX2_add_54 g a0 M_12 else none else none else none else none))
set_option maxHeartbeats 4000000 in
set_option maxRecDepth 100000 in
theorem mX2_add {w : gW} {n : Nat} {Rm : Nat → Nat → Nat} {g : Nat → Nat} (hLC : gLC g n Rm) {l : Launch} (hl9 : l.stackTraces = false) {a0 : Nat} {x1 : Int} {x2 : Int} {x3 : Int} {x4 : Int} {M : gMem} {r : gMem} (hg0 : g a0 = 3) (hr1 : gRI x1) (hr2 : gRI x2) (hr3 : gRI x3) (hr4 : gRI x4) (hf : fX2_add g a0 x1 x2 x3 x4 M = some r) : gMT w n Rm l yX2_add cX2_add 6 none 1 60 0 0 [.ref (w.1 + a0), .int (gi x1), .int (gi x2), .int (gi x3), .int (gi x4)] M (.inr none) r True := by
  unfold fX2_add at hf
  refine gMT.of hl9 (by decide +kernel) ((Nat.le_of_ble_eq_true rfl)) ?_
  intro p e s m below meth c hM hH ls hl
  have hM : gMC w p l s m ([.ref (w.1 + a0), .int (gi x1), .int (gi x2), .int (gi x3), .int (gi x4)] : List Value).toArray meth c cX2_add 6 RX2 none := hM
  have hl : lv_has ls 6 [(0, .ref (w.1 + a0)), (1, .int (gi x1)), (2, .int (gi x2)), (3, .int (gi x3)), (4, .int (gi x4))] := hl
  refine lv_aload_n hM.fx.1 hM.fx.2.1 dX2_add_0 rfl (lv_at hl 0 rfl) ?_
  refine r_getI hM.fx hM.kf hH fl_X2_30 (hLC.in hg0 (by decide)) dX2_add_1 ?_
  have hr_1 := hH.2.2.i (hLC.in hg0 (by decide)).2.2 (by decide : glg 3 4 = false)
  refine lv_bipush (v := gi (40)) hM.fx.1 hM.fx.2.1 dX2_add_4 (by decide) ?_
  refine r_irem hM.fx hr_1 (gcR (k := 40) (by decide)) (by decide) dX2_add_6 ?_
  obtain ⟨x_2, ex_2, hf⟩ := gst_s hf
  refine W.eq (g2 := F0 m _ ls (.int (gi x_2) :: _)) (by rw [ex_2]) ?_
  have hx_2 : gRI x_2 := by rw [ex_2]; exact (gtmod_r hr_1)
  refine lv_istore (lv' := [(5, .int (gi x_2)), (0, .ref (w.1 + a0)), (1, .int (gi x1)), (2, .int (gi x2)), (3, .int (gi x3)), (4, .int (gi x4))]) hM.fx.1 hM.fx.2.1 dX2_add_7 hl (by decide) rfl (fun ls hl => ?_)
  refine lv_iload hM.fx.1 hM.fx.2.1 dX2_add_9 (lv_at hl 0 rfl) ?_
  refine r_if_lt (tgt := 54) hM.fx hx_2 dX2_add_11 (by decide) (fun h_3 => ?_) (fun h_3 => ?_)
  · have hf := gpos h_3 hf
    exact wX2_add_54 hLC hM   _ _ _ hg0 hf _ _ _ hH (lv_sub hl [1] rfl)
  · have hf := gneg' h_3 hf
    refine lv_iload hM.fx.1 hM.fx.2.1 dX2_add_14 (lv_at hl 0 rfl) ?_
    refine lv_bipush (v := gi (40)) hM.fx.1 hM.fx.2.1 dX2_add_16 (by decide) ?_
    refine r_icmp_ge (tgt := 54) hM.fx hx_2 (gcR (k := 40) (by decide)) dX2_add_18 (by decide) (fun h_4 => ?_) (fun h_4 => ?_)
    · have hf := gpos h_4 hf
      exact wX2_add_54 hLC hM   _ _ _ hg0 hf _ _ _ hH (lv_sub hl [1] rfl)
    · have hf := gneg' h_4 hf
      refine lv_aload_n hM.fx.1 hM.fx.2.1 dX2_add_21 rfl (lv_at hl 1 rfl) ?_
      refine r_getR hM.fx hM.kf hH hLC fl_X2_9 hg0 gch_3_0 dX2_add_22 ?_
      refine lv_iload hM.fx.1 hM.fx.2.1 dX2_add_25 (lv_at hl 0 rfl) ?_
      refine lv_iload_n hM.fx.1 hM.fx.2.1 dX2_add_27 rfl (lv_at hl 2 rfl) ?_
      obtain ⟨g_5, hf⟩ := gif hf
      refine r_iast hM.fx hM.kf hH (hLC.in (hLC.ch hg0 (by decide) gch_3_0) (by decide)) (⟨by decide, by decide⟩ : gAr 656 0) hx_2 g_5 hr1 dX2_add_28 (fun H locs hH => ?_)
      obtain ⟨M_6, eM_6, hf⟩ := gst_s hf
      rw [← eM_6] at hH
      refine lv_aload_n hM.fx.1 hM.fx.2.1 dX2_add_29 rfl (lv_at hl 1 rfl) ?_
      refine r_getR hM.fx hM.kf hH hLC fl_X2_15 hg0 gch_3_1 dX2_add_30 ?_
      refine lv_iload hM.fx.1 hM.fx.2.1 dX2_add_33 (lv_at hl 0 rfl) ?_
      refine lv_iload_n hM.fx.1 hM.fx.2.1 dX2_add_35 rfl (lv_at hl 3 rfl) ?_
      obtain ⟨g_7, hf⟩ := gif hf
      refine r_iast hM.fx hM.kf hH (hLC.in (hLC.ch hg0 (by decide) gch_3_1) (by decide)) (⟨by decide, by decide⟩ : gAr 656 0) hx_2 g_7 hr2 dX2_add_36 (fun H locs hH => ?_)
      obtain ⟨M_8, eM_8, hf⟩ := gst_s hf
      rw [← eM_8] at hH
      refine lv_aload_n hM.fx.1 hM.fx.2.1 dX2_add_37 rfl (lv_at hl 1 rfl) ?_
      refine r_getR hM.fx hM.kf hH hLC fl_X2_18 hg0 gch_3_2 dX2_add_38 ?_
      refine lv_iload hM.fx.1 hM.fx.2.1 dX2_add_41 (lv_at hl 0 rfl) ?_
      refine lv_iload_n hM.fx.1 hM.fx.2.1 dX2_add_43 rfl (lv_at hl 4 rfl) ?_
      obtain ⟨g_9, hf⟩ := gif hf
      refine r_iast hM.fx hM.kf hH (hLC.in (hLC.ch hg0 (by decide) gch_3_2) (by decide)) (⟨by decide, by decide⟩ : gAr 656 0) hx_2 g_9 hr3 dX2_add_44 (fun H locs hH => ?_)
      obtain ⟨M_10, eM_10, hf⟩ := gst_s hf
      rw [← eM_10] at hH
      refine lv_aload_n hM.fx.1 hM.fx.2.1 dX2_add_45 rfl (lv_at hl 1 rfl) ?_
      refine r_getR hM.fx hM.kf hH hLC fl_X2_21 hg0 gch_3_3 dX2_add_46 ?_
      refine lv_iload hM.fx.1 hM.fx.2.1 dX2_add_49 (lv_at hl 0 rfl) ?_
      refine lv_iload hM.fx.1 hM.fx.2.1 dX2_add_51 (lv_at hl 5 rfl) ?_
      obtain ⟨g_11, hf⟩ := gif hf
      refine r_iast hM.fx hM.kf hH (hLC.in (hLC.ch hg0 (by decide) gch_3_3) (by decide)) (⟨by decide, by decide⟩ : gAr 656 0) hx_2 g_11 hr4 dX2_add_53 (fun H locs hH => ?_)
      obtain ⟨M_12, eM_12, hf⟩ := gst_s hf
      rw [← eM_12] at hH
      exact wX2_add_54 hLC hM   _ _ _ hg0 hf _ _ _ hH (lv_sub hl [1] rfl)
def fX2_entry (g : Nat → Nat) (a0 : Nat) (x1 : Int) (x2 : Int) (M : gMem) : Option Int :=
  gst ((gwi (gwi (M a0 4 - 1) - x1)).tmod 40) fun x_2 => if x_2 < 0 then (some (-1)) else (if x_2 < 40 then (if x2 = 0 then (if (0 : Int) ≤ x_2 ∧ (x_2 : Int) < 40 then some (M (a0 + 1) x_2.toNat) else none) else (if x2 = 1 then (if (0 : Int) ≤ x_2 ∧ (x_2 : Int) < 40 then some (M (a0 + 2) x_2.toNat) else none) else (if x2 = 2 then (if (0 : Int) ≤ x_2 ∧ (x_2 : Int) < 40 then some (M (a0 + 3) x_2.toNat) else none) else (if (0 : Int) ≤ x_2 ∧ (x_2 : Int) < 40 then some (M (a0 + 4) x_2.toNat) else none)))) else (some (-1)))
set_option maxHeartbeats 4000000 in
set_option maxRecDepth 100000 in
theorem mX2_entry {w : gW} {n : Nat} {Rm : Nat → Nat → Nat} {g : Nat → Nat} (hLC : gLC g n Rm) {l : Launch} (hl9 : l.stackTraces = false) {a0 : Nat} {x1 : Int} {x2 : Int} {M : gMem} {r : Int} (hg0 : g a0 = 3) (hr1 : gRI x1) (hr2 : gRI x2) (hf : fX2_entry g a0 x1 x2 M = some r) : gMT w n Rm l yX2_entry cX2_entry 4 (some .int) 1 60 0 0 [.ref (w.1 + a0), .int (gi x1), .int (gi x2)] M (.inr (some (.int (gi r)))) M (gRI r) := by
  unfold fX2_entry at hf
  refine gMT.of hl9 (by decide +kernel) ((Nat.le_of_ble_eq_true rfl)) ?_
  intro p e s m below meth c hM hH ls hl
  have hM : gMC w p l s m ([.ref (w.1 + a0), .int (gi x1), .int (gi x2)] : List Value).toArray meth c cX2_entry 4 RX2 (some .int) := hM
  have hl : lv_has ls 4 [(0, .ref (w.1 + a0)), (1, .int (gi x1)), (2, .int (gi x2))] := hl
  refine lv_aload_n hM.fx.1 hM.fx.2.1 dX2_entry_0 rfl (lv_at hl 0 rfl) ?_
  refine r_getI hM.fx hM.kf hH fl_X2_30 (hLC.in hg0 (by decide)) dX2_entry_1 ?_
  have hr_1 := hH.2.2.i (hLC.in hg0 (by decide)).2.2 (by decide : glg 3 4 = false)
  refine lv_iconst (v := gi (1)) hM.fx.1 hM.fx.2.1 dX2_entry_4 rfl ?_
  refine r_isub hM.fx dX2_entry_5 ?_
  refine lv_iload_n hM.fx.1 hM.fx.2.1 dX2_entry_6 rfl (lv_at hl 1 rfl) ?_
  refine r_isub hM.fx dX2_entry_7 ?_
  refine lv_bipush (v := gi (40)) hM.fx.1 hM.fx.2.1 dX2_entry_8 (by decide) ?_
  refine r_irem hM.fx (gwi_r _) (gcR (k := 40) (by decide)) (by decide) dX2_entry_10 ?_
  obtain ⟨x_2, ex_2, hf⟩ := gst_s hf
  refine W.eq (g2 := F0 m _ ls (.int (gi x_2) :: _)) (by rw [ex_2]) ?_
  have hx_2 : gRI x_2 := by rw [ex_2]; exact (gtmod_r (gwi_r _))
  refine lv_istore_n (lv' := [(3, .int (gi x_2)), (0, .ref (w.1 + a0)), (1, .int (gi x1)), (2, .int (gi x2))]) hM.fx.1 hM.fx.2.1 dX2_entry_11 rfl hl (by decide) rfl (fun ls hl => ?_)
  refine lv_iload_n hM.fx.1 hM.fx.2.1 dX2_entry_12 rfl (lv_at hl 0 rfl) ?_
  refine r_if_lt (tgt := 22) hM.fx hx_2 dX2_entry_13 (by decide) (fun h_3 => ?_) (fun h_3 => ?_)
  · have hf := gpos h_3 hf
    refine lv_iconst (v := gi (-1)) hM.fx.1 hM.fx.2.1 dX2_entry_22 rfl ?_
    obtain rfl := Option.some.inj hf
    exact r_iret hM hH (gcR (k := -1) (by decide)) ⟨(Nat.le_of_ble_eq_true rfl), (Nat.le_of_ble_eq_true rfl)⟩ dX2_entry_23
  · have hf := gneg' h_3 hf
    refine lv_iload_n hM.fx.1 hM.fx.2.1 dX2_entry_16 rfl (lv_at hl 0 rfl) ?_
    refine lv_bipush (v := gi (40)) hM.fx.1 hM.fx.2.1 dX2_entry_17 (by decide) ?_
    refine r_icmp_lt (tgt := 24) hM.fx hx_2 (gcR (k := 40) (by decide)) dX2_entry_19 (by decide) (fun h_4 => ?_) (fun h_4 => ?_)
    · have hf := gpos h_4 hf
      refine lv_iload_n hM.fx.1 hM.fx.2.1 dX2_entry_24 rfl (lv_at hl 3 rfl) ?_
      by_cases h_5 : x2 = 0
      · refine r_tsIn (tgt := 52) hM.fx hr2 0 dX2_entry_25 h_5 (by decide) rfl (by decide) ?_
        have hf := gpos h_5 hf
        refine lv_aload_n hM.fx.1 hM.fx.2.1 dX2_entry_52 rfl (lv_at hl 1 rfl) ?_
        refine r_getR hM.fx hM.kf hH hLC fl_X2_9 hg0 gch_3_0 dX2_entry_53 ?_
        refine lv_iload_n hM.fx.1 hM.fx.2.1 dX2_entry_56 rfl (lv_at hl 0 rfl) ?_
        obtain ⟨g_6, hf⟩ := gif hf
        refine r_iald hM.fx hM.kf hH (hLC.in (hLC.ch hg0 (by decide) gch_3_0) (by decide)) (⟨by decide, by decide⟩ : gAr 656 0) hx_2 g_6 dX2_entry_57 ?_
        have hr_7 := hH.2.2.i (k := x_2.toNat) (hLC.in (hLC.ch hg0 (by decide) gch_3_0) (by decide)).2.2 (glg_a (⟨by decide, by decide⟩ : gAr 656 0))
        obtain rfl := Option.some.inj hf
        exact r_iret hM hH hr_7 ⟨(Nat.le_of_ble_eq_true rfl), (Nat.le_of_ble_eq_true rfl)⟩ dX2_entry_58
      · have hf := gneg' h_5 hf
        by_cases h_8 : x2 = 1
        · refine r_tsIn (tgt := 59) hM.fx hr2 1 dX2_entry_25 h_8 (by decide) rfl (by decide) ?_
          have hf := gpos h_8 hf
          refine lv_aload_n hM.fx.1 hM.fx.2.1 dX2_entry_59 rfl (lv_at hl 1 rfl) ?_
          refine r_getR hM.fx hM.kf hH hLC fl_X2_15 hg0 gch_3_1 dX2_entry_60 ?_
          refine lv_iload_n hM.fx.1 hM.fx.2.1 dX2_entry_63 rfl (lv_at hl 0 rfl) ?_
          obtain ⟨g_9, hf⟩ := gif hf
          refine r_iald hM.fx hM.kf hH (hLC.in (hLC.ch hg0 (by decide) gch_3_1) (by decide)) (⟨by decide, by decide⟩ : gAr 656 0) hx_2 g_9 dX2_entry_64 ?_
          have hr_10 := hH.2.2.i (k := x_2.toNat) (hLC.in (hLC.ch hg0 (by decide) gch_3_1) (by decide)).2.2 (glg_a (⟨by decide, by decide⟩ : gAr 656 0))
          obtain rfl := Option.some.inj hf
          exact r_iret hM hH hr_10 ⟨(Nat.le_of_ble_eq_true rfl), (Nat.le_of_ble_eq_true rfl)⟩ dX2_entry_65
        · have hf := gneg' h_8 hf
          by_cases h_11 : x2 = 2
          · refine r_tsIn (tgt := 66) hM.fx hr2 2 dX2_entry_25 h_11 (by decide) rfl (by decide) ?_
            have hf := gpos h_11 hf
            refine lv_aload_n hM.fx.1 hM.fx.2.1 dX2_entry_66 rfl (lv_at hl 1 rfl) ?_
            refine r_getR hM.fx hM.kf hH hLC fl_X2_18 hg0 gch_3_2 dX2_entry_67 ?_
            refine lv_iload_n hM.fx.1 hM.fx.2.1 dX2_entry_70 rfl (lv_at hl 0 rfl) ?_
            obtain ⟨g_12, hf⟩ := gif hf
            refine r_iald hM.fx hM.kf hH (hLC.in (hLC.ch hg0 (by decide) gch_3_2) (by decide)) (⟨by decide, by decide⟩ : gAr 656 0) hx_2 g_12 dX2_entry_71 ?_
            have hr_13 := hH.2.2.i (k := x_2.toNat) (hLC.in (hLC.ch hg0 (by decide) gch_3_2) (by decide)).2.2 (glg_a (⟨by decide, by decide⟩ : gAr 656 0))
            obtain rfl := Option.some.inj hf
            exact r_iret hM hH hr_13 ⟨(Nat.le_of_ble_eq_true rfl), (Nat.le_of_ble_eq_true rfl)⟩ dX2_entry_72
          · have hf := gneg' h_11 hf
            refine r_tsOut (tgt := 73) hM.fx hr2 dX2_entry_25 (by omega) (by decide) ?_
            refine lv_aload_n hM.fx.1 hM.fx.2.1 dX2_entry_73 rfl (lv_at hl 1 rfl) ?_
            refine r_getR hM.fx hM.kf hH hLC fl_X2_21 hg0 gch_3_3 dX2_entry_74 ?_
            refine lv_iload_n hM.fx.1 hM.fx.2.1 dX2_entry_77 rfl (lv_at hl 0 rfl) ?_
            obtain ⟨g_14, hf⟩ := gif hf
            refine r_iald hM.fx hM.kf hH (hLC.in (hLC.ch hg0 (by decide) gch_3_3) (by decide)) (⟨by decide, by decide⟩ : gAr 656 0) hx_2 g_14 dX2_entry_78 ?_
            have hr_15 := hH.2.2.i (k := x_2.toNat) (hLC.in (hLC.ch hg0 (by decide) gch_3_3) (by decide)).2.2 (glg_a (⟨by decide, by decide⟩ : gAr 656 0))
            obtain rfl := Option.some.inj hf
            exact r_iret hM hH hr_15 ⟨(Nat.le_of_ble_eq_true rfl), (Nat.le_of_ble_eq_true rfl)⟩ dX2_entry_79
    · have hf := gneg' h_4 hf
      refine lv_iconst (v := gi (-1)) hM.fx.1 hM.fx.2.1 dX2_entry_22 rfl ?_
      obtain rfl := Option.some.inj hf
      exact r_iret hM hH (gcR (k := -1) (by decide)) ⟨(Nat.le_of_ble_eq_true rfl), (Nat.le_of_ble_eq_true rfl)⟩ dX2_entry_23
def fX3_isFull (g : Nat → Nat) (a0 : Nat) (M : gMem) : Option Int :=
  if M a0 1 < M a0 2 then (some 0) else (some 1)
set_option maxHeartbeats 4000000 in
set_option maxRecDepth 100000 in
theorem mX3_isFull {w : gW} {n : Nat} {Rm : Nat → Nat → Nat} {g : Nat → Nat} (hLC : gLC g n Rm) {l : Launch} (hl9 : l.stackTraces = false) {a0 : Nat} {M : gMem} {r : Int} (hg0 : g a0 = 4) (hf : fX3_isFull g a0 M = some r) : gMT w n Rm l yX3_isFull cX3_isFull 1 (some .boolean) 1 60 0 0 [.ref (w.1 + a0)] M (.inr (some (.int (gi r)))) M (r = 0 ∨ r = 1) := by
  unfold fX3_isFull at hf
  refine gMT.of hl9 (by decide +kernel) ((Nat.le_of_ble_eq_true rfl)) ?_
  intro p e s m below meth c hM hH ls hl
  have hM : gMC w p l s m ([.ref (w.1 + a0)] : List Value).toArray meth c cX3_isFull 1 RX3 (some .boolean) := hM
  have hl : lv_has ls 1 [(0, .ref (w.1 + a0))] := hl
  refine lv_aload_n hM.fx.1 hM.fx.2.1 dX3_isFull_0 rfl (lv_at hl 0 rfl) ?_
  refine r_getI hM.fx hM.kf hH fl_X3_15 (hLC.in hg0 (by decide)) dX3_isFull_1 ?_
  have hr_1 := hH.2.2.i (hLC.in hg0 (by decide)).2.2 (by decide : glg 4 1 = false)
  refine lv_aload_n hM.fx.1 hM.fx.2.1 dX3_isFull_4 rfl (lv_at hl 0 rfl) ?_
  refine r_getI hM.fx hM.kf hH fl_X3_19 (hLC.in hg0 (by decide)) dX3_isFull_5 ?_
  have hr_2 := hH.2.2.i (hLC.in hg0 (by decide)).2.2 (by decide : glg 4 2 = false)
  refine r_icmp_lt (tgt := 15) hM.fx hr_1 hr_2 dX3_isFull_8 (by decide) (fun h_3 => ?_) (fun h_3 => ?_)
  · have hf := gpos h_3 hf
    refine lv_iconst (v := gi (0)) hM.fx.1 hM.fx.2.1 dX3_isFull_15 rfl ?_
    obtain rfl := Option.some.inj hf
    exact r_zret hM hH (Or.inl rfl) (Or.inl rfl) ⟨(Nat.le_of_ble_eq_true rfl), (Nat.le_of_ble_eq_true rfl)⟩ dX3_isFull_16
  · have hf := gneg' h_3 hf
    refine lv_iconst (v := gi (1)) hM.fx.1 hM.fx.2.1 dX3_isFull_11 rfl ?_
    refine lv_goto (tgt := 16) hM.fx.1 hM.fx.2.1 dX3_isFull_12 (by decide) ?_
    obtain rfl := Option.some.inj hf
    exact r_zret hM hH (Or.inr rfl) (Or.inr rfl) ⟨(Nat.le_of_ble_eq_true rfl), (Nat.le_of_ble_eq_true rfl)⟩ dX3_isFull_16
def fX3_numberAt_24 (g : Nat → Nat)  (M : gMem) : Option Int :=
  some (-1000000)
set_option maxHeartbeats 4000000 in
set_option maxRecDepth 100000 in
theorem wX3_numberAt_24 {w : gW} {n : Nat} {Rm : Nat → Nat → Nat} {g : Nat → Nat} (hLC : gLC g n Rm) {p : Program} {l : Launch} {e : Env} {s : State} {m : MethodId} {args : Array Value} {below : List Frame} {meth : Method} {c : Code} (hM : gMC w p l s m args meth c cX3_numberAt 2 RX3 (some .int))  : ∀  (M : gMem) (r : Int)  (hf : fX3_numberAt_24 g M = some r) (H : Heap) (locs : List Loc) (ls : Array Slot) (hH : gH w n Rm M s H locs) (hl : lv_has ls 2 []), W p l e { frames := 1, cells := 0, slots := 0, locals := 60 } s m args below meth c H locs 0 0 (gQ w n Rm below args s 0 0 (.inr (some (.int (gi r)))) M (gRI r)) (F0 m 24 ls []) := by
  intro M r hf H locs ls hH hl
  unfold fX3_numberAt_24 at hf
  refine r_ldc (x := -1000000) hM.fx gw_771 (by decide) dX3_numberAt_24 ?_
  obtain rfl := Option.some.inj hf
  exact r_iret hM hH (gcR (k := -1000000) (by decide)) ⟨(Nat.le_of_ble_eq_true rfl), (Nat.le_of_ble_eq_true rfl)⟩ dX3_numberAt_26
def fX3_numberAt (g : Nat → Nat) (a0 : Nat) (x1 : Int) (M : gMem) : Option Int :=
  if x1 < 0 then (fX3_numberAt_24 g M) else (if M a0 1 ≤ x1 then (fX3_numberAt_24 g M) else (if M a0 1 ≤ 16 then (if (0 : Int) ≤ gwi (gwi (M a0 1 - 1) - x1) ∧ (gwi (gwi (M a0 1 - 1) - x1) : Int) < 16 then some (M (a0 + 1) (gwi (gwi (M a0 1 - 1) - x1)).toNat) else none) else (fX3_numberAt_24 g M)))
set_option maxHeartbeats 4000000 in
set_option maxRecDepth 100000 in
theorem mX3_numberAt {w : gW} {n : Nat} {Rm : Nat → Nat → Nat} {g : Nat → Nat} (hLC : gLC g n Rm) {l : Launch} (hl9 : l.stackTraces = false) {a0 : Nat} {x1 : Int} {M : gMem} {r : Int} (hg0 : g a0 = 4) (hr1 : gRI x1) (hf : fX3_numberAt g a0 x1 M = some r) : gMT w n Rm l yX3_numberAt cX3_numberAt 2 (some .int) 1 60 0 0 [.ref (w.1 + a0), .int (gi x1)] M (.inr (some (.int (gi r)))) M (gRI r) := by
  unfold fX3_numberAt at hf
  refine gMT.of hl9 (by decide +kernel) ((Nat.le_of_ble_eq_true rfl)) ?_
  intro p e s m below meth c hM hH ls hl
  have hM : gMC w p l s m ([.ref (w.1 + a0), .int (gi x1)] : List Value).toArray meth c cX3_numberAt 2 RX3 (some .int) := hM
  have hl : lv_has ls 2 [(0, .ref (w.1 + a0)), (1, .int (gi x1))] := hl
  refine lv_iload_n hM.fx.1 hM.fx.2.1 dX3_numberAt_0 rfl (lv_at hl 1 rfl) ?_
  refine r_if_lt (tgt := 24) hM.fx hr1 dX3_numberAt_1 (by decide) (fun h_1 => ?_) (fun h_1 => ?_)
  · have hf := gpos h_1 hf
    exact wX3_numberAt_24 hLC hM   _ _ hf _ _ _ hH (lv_sub hl [] rfl)
  · have hf := gneg' h_1 hf
    refine lv_iload_n hM.fx.1 hM.fx.2.1 dX3_numberAt_4 rfl (lv_at hl 1 rfl) ?_
    refine lv_aload_n hM.fx.1 hM.fx.2.1 dX3_numberAt_5 rfl (lv_at hl 0 rfl) ?_
    refine r_getI hM.fx hM.kf hH fl_X3_15 (hLC.in hg0 (by decide)) dX3_numberAt_6 ?_
    have hr_2 := hH.2.2.i (hLC.in hg0 (by decide)).2.2 (by decide : glg 4 1 = false)
    refine r_icmp_ge (tgt := 24) hM.fx hr1 hr_2 dX3_numberAt_9 (by decide) (fun h_3 => ?_) (fun h_3 => ?_)
    · have hf := gpos h_3 hf
      exact wX3_numberAt_24 hLC hM   _ _ hf _ _ _ hH (lv_sub hl [] rfl)
    · have hf := gneg' h_3 hf
      refine lv_aload_n hM.fx.1 hM.fx.2.1 dX3_numberAt_12 rfl (lv_at hl 0 rfl) ?_
      refine r_getI hM.fx hM.kf hH fl_X3_15 (hLC.in hg0 (by decide)) dX3_numberAt_13 ?_
      have hr_4 := hH.2.2.i (hLC.in hg0 (by decide)).2.2 (by decide : glg 4 1 = false)
      refine lv_aload_n hM.fx.1 hM.fx.2.1 dX3_numberAt_16 rfl (lv_at hl 0 rfl) ?_
      refine r_getR hM.fx hM.kf hH hLC fl_X3_9 hg0 gch_4_0 dX3_numberAt_17 ?_
      refine r_alen hM.fx hM.kf hH 0 rfl (hLC.in (hLC.ch hg0 (by decide) gch_4_0) (by decide)) (⟨by decide, by decide⟩ : gAr 272 0) rfl dX3_numberAt_20 ?_
      refine r_icmp_le (tgt := 27) hM.fx hr_4 (gcR (k := 16) (by decide)) dX3_numberAt_21 (by decide) (fun h_5 => ?_) (fun h_5 => ?_)
      · have hf := gpos h_5 hf
        refine lv_aload_n hM.fx.1 hM.fx.2.1 dX3_numberAt_27 rfl (lv_at hl 0 rfl) ?_
        refine r_getR hM.fx hM.kf hH hLC fl_X3_9 hg0 gch_4_0 dX3_numberAt_28 ?_
        refine lv_aload_n hM.fx.1 hM.fx.2.1 dX3_numberAt_31 rfl (lv_at hl 0 rfl) ?_
        refine r_getI hM.fx hM.kf hH fl_X3_15 (hLC.in hg0 (by decide)) dX3_numberAt_32 ?_
        have hr_6 := hH.2.2.i (hLC.in hg0 (by decide)).2.2 (by decide : glg 4 1 = false)
        refine lv_iconst (v := gi (1)) hM.fx.1 hM.fx.2.1 dX3_numberAt_35 rfl ?_
        refine r_isub hM.fx dX3_numberAt_36 ?_
        refine lv_iload_n hM.fx.1 hM.fx.2.1 dX3_numberAt_37 rfl (lv_at hl 1 rfl) ?_
        refine r_isub hM.fx dX3_numberAt_38 ?_
        obtain ⟨g_7, hf⟩ := gif hf
        refine r_iald hM.fx hM.kf hH (hLC.in (hLC.ch hg0 (by decide) gch_4_0) (by decide)) (⟨by decide, by decide⟩ : gAr 272 0) (gwi_r _) g_7 dX3_numberAt_39 ?_
        have hr_8 := hH.2.2.i (k := (gwi (gwi (M a0 1 - 1) - x1)).toNat) (hLC.in (hLC.ch hg0 (by decide) gch_4_0) (by decide)).2.2 (glg_a (⟨by decide, by decide⟩ : gAr 272 0))
        obtain rfl := Option.some.inj hf
        exact r_iret hM hH hr_8 ⟨(Nat.le_of_ble_eq_true rfl), (Nat.le_of_ble_eq_true rfl)⟩ dX3_numberAt_40
      · have hf := gneg' h_5 hf
        exact wX3_numberAt_24 hLC hM   _ _ hf _ _ _ hH (lv_sub hl [] rfl)
def fX3_addTop (g : Nat → Nat) (a0 : Nat) (x1 : Int) (M : gMem) : Option gMem :=
  if M a0 1 < 0 then (some M) else (if M a0 2 ≤ M a0 1 then (some M) else (if 16 ≤ M a0 1 then (some M) else (if (0 : Int) ≤ M a0 1 ∧ (M a0 1 : Int) < 16 then gst (gup M (a0 + 1) (M a0 1).toNat x1) fun M_10 => gst (gup M_10 a0 1 (gwi (M_10 a0 1 + 1))) fun M_12 => some M_12 else none)))
set_option maxHeartbeats 4000000 in
set_option maxRecDepth 100000 in
theorem mX3_addTop {w : gW} {n : Nat} {Rm : Nat → Nat → Nat} {g : Nat → Nat} (hLC : gLC g n Rm) {l : Launch} (hl9 : l.stackTraces = false) {a0 : Nat} {x1 : Int} {M : gMem} {r : gMem} (hg0 : g a0 = 4) (hr1 : gRI x1) (hf : fX3_addTop g a0 x1 M = some r) : gMT w n Rm l yX3_addTop cX3_addTop 2 none 1 60 0 0 [.ref (w.1 + a0), .int (gi x1)] M (.inr none) r True := by
  unfold fX3_addTop at hf
  refine gMT.of hl9 (by decide +kernel) ((Nat.le_of_ble_eq_true rfl)) ?_
  intro p e s m below meth c hM hH ls hl
  have hM : gMC w p l s m ([.ref (w.1 + a0), .int (gi x1)] : List Value).toArray meth c cX3_addTop 2 RX3 none := hM
  have hl : lv_has ls 2 [(0, .ref (w.1 + a0)), (1, .int (gi x1))] := hl
  refine lv_aload_n hM.fx.1 hM.fx.2.1 dX3_addTop_0 rfl (lv_at hl 0 rfl) ?_
  refine r_getI hM.fx hM.kf hH fl_X3_15 (hLC.in hg0 (by decide)) dX3_addTop_1 ?_
  have hr_1 := hH.2.2.i (hLC.in hg0 (by decide)).2.2 (by decide : glg 4 1 = false)
  refine r_if_lt (tgt := 50) hM.fx hr_1 dX3_addTop_4 (by decide) (fun h_2 => ?_) (fun h_2 => ?_)
  · have hf := gpos h_2 hf
    obtain rfl := Option.some.inj hf
    exact r_vret hM hH trivial ⟨(Nat.le_of_ble_eq_true rfl), (Nat.le_of_ble_eq_true rfl)⟩ dX3_addTop_50
  · have hf := gneg' h_2 hf
    refine lv_aload_n hM.fx.1 hM.fx.2.1 dX3_addTop_7 rfl (lv_at hl 0 rfl) ?_
    refine r_getI hM.fx hM.kf hH fl_X3_15 (hLC.in hg0 (by decide)) dX3_addTop_8 ?_
    have hr_3 := hH.2.2.i (hLC.in hg0 (by decide)).2.2 (by decide : glg 4 1 = false)
    refine lv_aload_n hM.fx.1 hM.fx.2.1 dX3_addTop_11 rfl (lv_at hl 0 rfl) ?_
    refine r_getI hM.fx hM.kf hH fl_X3_19 (hLC.in hg0 (by decide)) dX3_addTop_12 ?_
    have hr_4 := hH.2.2.i (hLC.in hg0 (by decide)).2.2 (by decide : glg 4 2 = false)
    refine r_icmp_ge (tgt := 50) hM.fx hr_3 hr_4 dX3_addTop_15 (by decide) (fun h_5 => ?_) (fun h_5 => ?_)
    · have hf := gpos h_5 hf
      obtain rfl := Option.some.inj hf
      exact r_vret hM hH trivial ⟨(Nat.le_of_ble_eq_true rfl), (Nat.le_of_ble_eq_true rfl)⟩ dX3_addTop_50
    · have hf := gneg' h_5 hf
      refine lv_aload_n hM.fx.1 hM.fx.2.1 dX3_addTop_18 rfl (lv_at hl 0 rfl) ?_
      refine r_getI hM.fx hM.kf hH fl_X3_15 (hLC.in hg0 (by decide)) dX3_addTop_19 ?_
      have hr_6 := hH.2.2.i (hLC.in hg0 (by decide)).2.2 (by decide : glg 4 1 = false)
      refine lv_aload_n hM.fx.1 hM.fx.2.1 dX3_addTop_22 rfl (lv_at hl 0 rfl) ?_
      refine r_getR hM.fx hM.kf hH hLC fl_X3_9 hg0 gch_4_0 dX3_addTop_23 ?_
      refine r_alen hM.fx hM.kf hH 0 rfl (hLC.in (hLC.ch hg0 (by decide) gch_4_0) (by decide)) (⟨by decide, by decide⟩ : gAr 272 0) rfl dX3_addTop_26 ?_
      refine r_icmp_ge (tgt := 50) hM.fx hr_6 (gcR (k := 16) (by decide)) dX3_addTop_27 (by decide) (fun h_7 => ?_) (fun h_7 => ?_)
      · have hf := gpos h_7 hf
        obtain rfl := Option.some.inj hf
        exact r_vret hM hH trivial ⟨(Nat.le_of_ble_eq_true rfl), (Nat.le_of_ble_eq_true rfl)⟩ dX3_addTop_50
      · have hf := gneg' h_7 hf
        refine lv_aload_n hM.fx.1 hM.fx.2.1 dX3_addTop_30 rfl (lv_at hl 0 rfl) ?_
        refine r_getR hM.fx hM.kf hH hLC fl_X3_9 hg0 gch_4_0 dX3_addTop_31 ?_
        refine lv_aload_n hM.fx.1 hM.fx.2.1 dX3_addTop_34 rfl (lv_at hl 0 rfl) ?_
        refine r_getI hM.fx hM.kf hH fl_X3_15 (hLC.in hg0 (by decide)) dX3_addTop_35 ?_
        have hr_8 := hH.2.2.i (hLC.in hg0 (by decide)).2.2 (by decide : glg 4 1 = false)
        refine lv_iload_n hM.fx.1 hM.fx.2.1 dX3_addTop_38 rfl (lv_at hl 1 rfl) ?_
        obtain ⟨g_9, hf⟩ := gif hf
        refine r_iast hM.fx hM.kf hH (hLC.in (hLC.ch hg0 (by decide) gch_4_0) (by decide)) (⟨by decide, by decide⟩ : gAr 272 0) hr_8 g_9 hr1 dX3_addTop_39 (fun H locs hH => ?_)
        obtain ⟨M_10, eM_10, hf⟩ := gst_s hf
        rw [← eM_10] at hH
        refine lv_aload_n hM.fx.1 hM.fx.2.1 dX3_addTop_40 rfl (lv_at hl 0 rfl) ?_
        refine lv_dup hM.fx.1 hM.fx.2.1 dX3_addTop_41 rfl ?_
        refine r_getI hM.fx hM.kf hH fl_X3_15 (hLC.in hg0 (by decide)) dX3_addTop_42 ?_
        have hr_11 := hH.2.2.i (hLC.in hg0 (by decide)).2.2 (by decide : glg 4 1 = false)
        refine lv_iconst (v := gi (1)) hM.fx.1 hM.fx.2.1 dX3_addTop_45 rfl ?_
        refine r_iadd hM.fx dX3_addTop_46 ?_
        refine r_putI hM.fx hM.kf hH fp_X3_15 (hLC.in hg0 (by decide)) (gwi_r _) dX3_addTop_47 (fun H locs hH => ?_)
        obtain ⟨M_12, eM_12, hf⟩ := gst_s hf
        rw [← eM_12] at hH
        obtain rfl := Option.some.inj hf
        exact r_vret hM hH trivial ⟨(Nat.le_of_ble_eq_true rfl), (Nat.le_of_ble_eq_true rfl)⟩ dX3_addTop_50
def fX3_dropTop (g : Nat → Nat) (a0 : Nat) (M : gMem) : Option gMem :=
  if M a0 1 ≤ 0 then (some M) else (gst (gup M a0 1 (gwi (M a0 1 - 1))) fun M_4 => some M_4)
set_option maxHeartbeats 4000000 in
set_option maxRecDepth 100000 in
theorem mX3_dropTop {w : gW} {n : Nat} {Rm : Nat → Nat → Nat} {g : Nat → Nat} (hLC : gLC g n Rm) {l : Launch} (hl9 : l.stackTraces = false) {a0 : Nat} {M : gMem} {r : gMem} (hg0 : g a0 = 4) (hf : fX3_dropTop g a0 M = some r) : gMT w n Rm l yX3_dropTop cX3_dropTop 1 none 1 60 0 0 [.ref (w.1 + a0)] M (.inr none) r True := by
  unfold fX3_dropTop at hf
  refine gMT.of hl9 (by decide +kernel) ((Nat.le_of_ble_eq_true rfl)) ?_
  intro p e s m below meth c hM hH ls hl
  have hM : gMC w p l s m ([.ref (w.1 + a0)] : List Value).toArray meth c cX3_dropTop 1 RX3 none := hM
  have hl : lv_has ls 1 [(0, .ref (w.1 + a0))] := hl
  refine lv_aload_n hM.fx.1 hM.fx.2.1 dX3_dropTop_0 rfl (lv_at hl 0 rfl) ?_
  refine r_getI hM.fx hM.kf hH fl_X3_15 (hLC.in hg0 (by decide)) dX3_dropTop_1 ?_
  have hr_1 := hH.2.2.i (hLC.in hg0 (by decide)).2.2 (by decide : glg 4 1 = false)
  refine r_if_le (tgt := 17) hM.fx hr_1 dX3_dropTop_4 (by decide) (fun h_2 => ?_) (fun h_2 => ?_)
  · have hf := gpos h_2 hf
    obtain rfl := Option.some.inj hf
    exact r_vret hM hH trivial ⟨(Nat.le_of_ble_eq_true rfl), (Nat.le_of_ble_eq_true rfl)⟩ dX3_dropTop_17
  · have hf := gneg' h_2 hf
    refine lv_aload_n hM.fx.1 hM.fx.2.1 dX3_dropTop_7 rfl (lv_at hl 0 rfl) ?_
    refine lv_dup hM.fx.1 hM.fx.2.1 dX3_dropTop_8 rfl ?_
    refine r_getI hM.fx hM.kf hH fl_X3_15 (hLC.in hg0 (by decide)) dX3_dropTop_9 ?_
    have hr_3 := hH.2.2.i (hLC.in hg0 (by decide)).2.2 (by decide : glg 4 1 = false)
    refine lv_iconst (v := gi (1)) hM.fx.1 hM.fx.2.1 dX3_dropTop_12 rfl ?_
    refine r_isub hM.fx dX3_dropTop_13 ?_
    refine r_putI hM.fx hM.kf hH fp_X3_15 (hLC.in hg0 (by decide)) (gwi_r _) dX3_dropTop_14 (fun H locs hH => ?_)
    obtain ⟨M_4, eM_4, hf⟩ := gst_s hf
    rw [← eM_4] at hH
    obtain rfl := Option.some.inj hf
    exact r_vret hM hH trivial ⟨(Nat.le_of_ble_eq_true rfl), (Nat.le_of_ble_eq_true rfl)⟩ dX3_dropTop_17
def fX4_addCommand (g : Nat → Nat) (a0 : Nat) (x1 : Int) (x2 : Int) (M : gMem) : Option gMem :=
  if M a0 4 < 0 then (some M) else (if 24 ≤ M a0 4 then (some M) else (if 24 ≤ M a0 4 then (some M) else (if (0 : Int) ≤ M a0 4 ∧ (M a0 4 : Int) < 24 then gst (gup M (a0 + 1) (M a0 4).toNat x1) fun M_9 => if (0 : Int) ≤ M_9 a0 4 ∧ (M_9 a0 4 : Int) < 24 then gst (gup M_9 (a0 + 2) (M_9 a0 4).toNat x2) fun M_12 => gst (gup M_12 a0 4 (gwi (M_12 a0 4 + 1))) fun M_14 => some M_14 else none else none)))
set_option maxHeartbeats 4000000 in
set_option maxRecDepth 100000 in
theorem mX4_addCommand {w : gW} {n : Nat} {Rm : Nat → Nat → Nat} {g : Nat → Nat} (hLC : gLC g n Rm) {l : Launch} (hl9 : l.stackTraces = false) {a0 : Nat} {x1 : Int} {x2 : Int} {M : gMem} {r : gMem} (hg0 : g a0 = 5) (hr1 : gRI x1) (hr2 : gRI x2) (hf : fX4_addCommand g a0 x1 x2 M = some r) : gMT w n Rm l yX4_addCommand cX4_addCommand 3 none 1 60 0 0 [.ref (w.1 + a0), .int (gi x1), .int (gi x2)] M (.inr none) r True := by
  unfold fX4_addCommand at hf
  refine gMT.of hl9 (by decide +kernel) ((Nat.le_of_ble_eq_true rfl)) ?_
  intro p e s m below meth c hM hH ls hl
  have hM : gMC w p l s m ([.ref (w.1 + a0), .int (gi x1), .int (gi x2)] : List Value).toArray meth c cX4_addCommand 3 RX4 none := hM
  have hl : lv_has ls 3 [(0, .ref (w.1 + a0)), (1, .int (gi x1)), (2, .int (gi x2))] := hl
  refine lv_aload_n hM.fx.1 hM.fx.2.1 dX4_addCommand_0 rfl (lv_at hl 0 rfl) ?_
  refine r_getI hM.fx hM.kf hH fl_X4_25 (hLC.in hg0 (by decide)) dX4_addCommand_1 ?_
  have hr_1 := hH.2.2.i (hLC.in hg0 (by decide)).2.2 (by decide : glg 5 4 = false)
  refine r_if_lt (tgt := 61) hM.fx hr_1 dX4_addCommand_4 (by decide) (fun h_2 => ?_) (fun h_2 => ?_)
  · have hf := gpos h_2 hf
    obtain rfl := Option.some.inj hf
    exact r_vret hM hH trivial ⟨(Nat.le_of_ble_eq_true rfl), (Nat.le_of_ble_eq_true rfl)⟩ dX4_addCommand_61
  · have hf := gneg' h_2 hf
    refine lv_aload_n hM.fx.1 hM.fx.2.1 dX4_addCommand_7 rfl (lv_at hl 0 rfl) ?_
    refine r_getI hM.fx hM.kf hH fl_X4_25 (hLC.in hg0 (by decide)) dX4_addCommand_8 ?_
    have hr_3 := hH.2.2.i (hLC.in hg0 (by decide)).2.2 (by decide : glg 5 4 = false)
    refine lv_aload_n hM.fx.1 hM.fx.2.1 dX4_addCommand_11 rfl (lv_at hl 0 rfl) ?_
    refine r_getR hM.fx hM.kf hH hLC fl_X4_9 hg0 gch_5_0 dX4_addCommand_12 ?_
    refine r_alen hM.fx hM.kf hH 0 rfl (hLC.in (hLC.ch hg0 (by decide) gch_5_0) (by decide)) (⟨by decide, by decide⟩ : gAr 400 0) rfl dX4_addCommand_15 ?_
    refine r_icmp_ge (tgt := 61) hM.fx hr_3 (gcR (k := 24) (by decide)) dX4_addCommand_16 (by decide) (fun h_4 => ?_) (fun h_4 => ?_)
    · have hf := gpos h_4 hf
      obtain rfl := Option.some.inj hf
      exact r_vret hM hH trivial ⟨(Nat.le_of_ble_eq_true rfl), (Nat.le_of_ble_eq_true rfl)⟩ dX4_addCommand_61
    · have hf := gneg' h_4 hf
      refine lv_aload_n hM.fx.1 hM.fx.2.1 dX4_addCommand_19 rfl (lv_at hl 0 rfl) ?_
      refine r_getI hM.fx hM.kf hH fl_X4_25 (hLC.in hg0 (by decide)) dX4_addCommand_20 ?_
      have hr_5 := hH.2.2.i (hLC.in hg0 (by decide)).2.2 (by decide : glg 5 4 = false)
      refine lv_aload_n hM.fx.1 hM.fx.2.1 dX4_addCommand_23 rfl (lv_at hl 0 rfl) ?_
      refine r_getR hM.fx hM.kf hH hLC fl_X4_15 hg0 gch_5_1 dX4_addCommand_24 ?_
      refine r_alen hM.fx hM.kf hH 0 rfl (hLC.in (hLC.ch hg0 (by decide) gch_5_1) (by decide)) (⟨by decide, by decide⟩ : gAr 400 0) rfl dX4_addCommand_27 ?_
      refine r_icmp_ge (tgt := 61) hM.fx hr_5 (gcR (k := 24) (by decide)) dX4_addCommand_28 (by decide) (fun h_6 => ?_) (fun h_6 => ?_)
      · have hf := gpos h_6 hf
        obtain rfl := Option.some.inj hf
        exact r_vret hM hH trivial ⟨(Nat.le_of_ble_eq_true rfl), (Nat.le_of_ble_eq_true rfl)⟩ dX4_addCommand_61
      · have hf := gneg' h_6 hf
        refine lv_aload_n hM.fx.1 hM.fx.2.1 dX4_addCommand_31 rfl (lv_at hl 0 rfl) ?_
        refine r_getR hM.fx hM.kf hH hLC fl_X4_9 hg0 gch_5_0 dX4_addCommand_32 ?_
        refine lv_aload_n hM.fx.1 hM.fx.2.1 dX4_addCommand_35 rfl (lv_at hl 0 rfl) ?_
        refine r_getI hM.fx hM.kf hH fl_X4_25 (hLC.in hg0 (by decide)) dX4_addCommand_36 ?_
        have hr_7 := hH.2.2.i (hLC.in hg0 (by decide)).2.2 (by decide : glg 5 4 = false)
        refine lv_iload_n hM.fx.1 hM.fx.2.1 dX4_addCommand_39 rfl (lv_at hl 1 rfl) ?_
        obtain ⟨g_8, hf⟩ := gif hf
        refine r_iast hM.fx hM.kf hH (hLC.in (hLC.ch hg0 (by decide) gch_5_0) (by decide)) (⟨by decide, by decide⟩ : gAr 400 0) hr_7 g_8 hr1 dX4_addCommand_40 (fun H locs hH => ?_)
        obtain ⟨M_9, eM_9, hf⟩ := gst_s hf
        rw [← eM_9] at hH
        refine lv_aload_n hM.fx.1 hM.fx.2.1 dX4_addCommand_41 rfl (lv_at hl 0 rfl) ?_
        refine r_getR hM.fx hM.kf hH hLC fl_X4_15 hg0 gch_5_1 dX4_addCommand_42 ?_
        refine lv_aload_n hM.fx.1 hM.fx.2.1 dX4_addCommand_45 rfl (lv_at hl 0 rfl) ?_
        refine r_getI hM.fx hM.kf hH fl_X4_25 (hLC.in hg0 (by decide)) dX4_addCommand_46 ?_
        have hr_10 := hH.2.2.i (hLC.in hg0 (by decide)).2.2 (by decide : glg 5 4 = false)
        refine lv_iload_n hM.fx.1 hM.fx.2.1 dX4_addCommand_49 rfl (lv_at hl 2 rfl) ?_
        obtain ⟨g_11, hf⟩ := gif hf
        refine r_iast hM.fx hM.kf hH (hLC.in (hLC.ch hg0 (by decide) gch_5_1) (by decide)) (⟨by decide, by decide⟩ : gAr 400 0) hr_10 g_11 hr2 dX4_addCommand_50 (fun H locs hH => ?_)
        obtain ⟨M_12, eM_12, hf⟩ := gst_s hf
        rw [← eM_12] at hH
        refine lv_aload_n hM.fx.1 hM.fx.2.1 dX4_addCommand_51 rfl (lv_at hl 0 rfl) ?_
        refine lv_dup hM.fx.1 hM.fx.2.1 dX4_addCommand_52 rfl ?_
        refine r_getI hM.fx hM.kf hH fl_X4_25 (hLC.in hg0 (by decide)) dX4_addCommand_53 ?_
        have hr_13 := hH.2.2.i (hLC.in hg0 (by decide)).2.2 (by decide : glg 5 4 = false)
        refine lv_iconst (v := gi (1)) hM.fx.1 hM.fx.2.1 dX4_addCommand_56 rfl ?_
        refine r_iadd hM.fx dX4_addCommand_57 ?_
        refine r_putI hM.fx hM.kf hH fp_X4_25 (hLC.in hg0 (by decide)) (gwi_r _) dX4_addCommand_58 (fun H locs hH => ?_)
        obtain ⟨M_14, eM_14, hf⟩ := gst_s hf
        rw [← eM_14] at hH
        obtain rfl := Option.some.inj hf
        exact r_vret hM hH trivial ⟨(Nat.le_of_ble_eq_true rfl), (Nat.le_of_ble_eq_true rfl)⟩ dX4_addCommand_61
def fX4_kindAt (g : Nat → Nat) (a0 : Nat) (x1 : Int) (M : gMem) : Option Int :=
  if x1 < 0 then (some (-1)) else (if M a0 4 ≤ x1 then (some (-1)) else (if 24 ≤ x1 then (some (-1)) else (if (0 : Int) ≤ x1 ∧ (x1 : Int) < 24 then some (M (a0 + 1) x1.toNat) else none)))
set_option maxHeartbeats 4000000 in
set_option maxRecDepth 100000 in
theorem mX4_kindAt {w : gW} {n : Nat} {Rm : Nat → Nat → Nat} {g : Nat → Nat} (hLC : gLC g n Rm) {l : Launch} (hl9 : l.stackTraces = false) {a0 : Nat} {x1 : Int} {M : gMem} {r : Int} (hg0 : g a0 = 5) (hr1 : gRI x1) (hf : fX4_kindAt g a0 x1 M = some r) : gMT w n Rm l yX4_kindAt cX4_kindAt 2 (some .int) 1 60 0 0 [.ref (w.1 + a0), .int (gi x1)] M (.inr (some (.int (gi r)))) M (gRI r) := by
  unfold fX4_kindAt at hf
  refine gMT.of hl9 (by decide +kernel) ((Nat.le_of_ble_eq_true rfl)) ?_
  intro p e s m below meth c hM hH ls hl
  have hM : gMC w p l s m ([.ref (w.1 + a0), .int (gi x1)] : List Value).toArray meth c cX4_kindAt 2 RX4 (some .int) := hM
  have hl : lv_has ls 2 [(0, .ref (w.1 + a0)), (1, .int (gi x1))] := hl
  refine lv_iload_n hM.fx.1 hM.fx.2.1 dX4_kindAt_0 rfl (lv_at hl 1 rfl) ?_
  refine r_if_lt (tgt := 30) hM.fx hr1 dX4_kindAt_1 (by decide) (fun h_1 => ?_) (fun h_1 => ?_)
  · have hf := gpos h_1 hf
    refine lv_iconst (v := gi (-1)) hM.fx.1 hM.fx.2.1 dX4_kindAt_30 rfl ?_
    obtain rfl := Option.some.inj hf
    exact r_iret hM hH (gcR (k := -1) (by decide)) ⟨(Nat.le_of_ble_eq_true rfl), (Nat.le_of_ble_eq_true rfl)⟩ dX4_kindAt_31
  · have hf := gneg' h_1 hf
    refine lv_iload_n hM.fx.1 hM.fx.2.1 dX4_kindAt_4 rfl (lv_at hl 1 rfl) ?_
    refine lv_aload_n hM.fx.1 hM.fx.2.1 dX4_kindAt_5 rfl (lv_at hl 0 rfl) ?_
    refine r_getI hM.fx hM.kf hH fl_X4_25 (hLC.in hg0 (by decide)) dX4_kindAt_6 ?_
    have hr_2 := hH.2.2.i (hLC.in hg0 (by decide)).2.2 (by decide : glg 5 4 = false)
    refine r_icmp_ge (tgt := 30) hM.fx hr1 hr_2 dX4_kindAt_9 (by decide) (fun h_3 => ?_) (fun h_3 => ?_)
    · have hf := gpos h_3 hf
      refine lv_iconst (v := gi (-1)) hM.fx.1 hM.fx.2.1 dX4_kindAt_30 rfl ?_
      obtain rfl := Option.some.inj hf
      exact r_iret hM hH (gcR (k := -1) (by decide)) ⟨(Nat.le_of_ble_eq_true rfl), (Nat.le_of_ble_eq_true rfl)⟩ dX4_kindAt_31
    · have hf := gneg' h_3 hf
      refine lv_iload_n hM.fx.1 hM.fx.2.1 dX4_kindAt_12 rfl (lv_at hl 1 rfl) ?_
      refine lv_aload_n hM.fx.1 hM.fx.2.1 dX4_kindAt_13 rfl (lv_at hl 0 rfl) ?_
      refine r_getR hM.fx hM.kf hH hLC fl_X4_9 hg0 gch_5_0 dX4_kindAt_14 ?_
      refine r_alen hM.fx hM.kf hH 0 rfl (hLC.in (hLC.ch hg0 (by decide) gch_5_0) (by decide)) (⟨by decide, by decide⟩ : gAr 400 0) rfl dX4_kindAt_17 ?_
      refine r_icmp_ge (tgt := 30) hM.fx hr1 (gcR (k := 24) (by decide)) dX4_kindAt_18 (by decide) (fun h_4 => ?_) (fun h_4 => ?_)
      · have hf := gpos h_4 hf
        refine lv_iconst (v := gi (-1)) hM.fx.1 hM.fx.2.1 dX4_kindAt_30 rfl ?_
        obtain rfl := Option.some.inj hf
        exact r_iret hM hH (gcR (k := -1) (by decide)) ⟨(Nat.le_of_ble_eq_true rfl), (Nat.le_of_ble_eq_true rfl)⟩ dX4_kindAt_31
      · have hf := gneg' h_4 hf
        refine lv_aload_n hM.fx.1 hM.fx.2.1 dX4_kindAt_21 rfl (lv_at hl 0 rfl) ?_
        refine r_getR hM.fx hM.kf hH hLC fl_X4_9 hg0 gch_5_0 dX4_kindAt_22 ?_
        refine lv_iload_n hM.fx.1 hM.fx.2.1 dX4_kindAt_25 rfl (lv_at hl 1 rfl) ?_
        obtain ⟨g_5, hf⟩ := gif hf
        refine r_iald hM.fx hM.kf hH (hLC.in (hLC.ch hg0 (by decide) gch_5_0) (by decide)) (⟨by decide, by decide⟩ : gAr 400 0) hr1 g_5 dX4_kindAt_26 ?_
        have hr_6 := hH.2.2.i (k := x1.toNat) (hLC.in (hLC.ch hg0 (by decide) gch_5_0) (by decide)).2.2 (glg_a (⟨by decide, by decide⟩ : gAr 400 0))
        refine lv_goto (tgt := 31) hM.fx.1 hM.fx.2.1 dX4_kindAt_27 (by decide) ?_
        obtain rfl := Option.some.inj hf
        exact r_iret hM hH hr_6 ⟨(Nat.le_of_ble_eq_true rfl), (Nat.le_of_ble_eq_true rfl)⟩ dX4_kindAt_31
def fX4_operandAt (g : Nat → Nat) (a0 : Nat) (x1 : Int) (M : gMem) : Option Int :=
  if x1 < 0 then (some 0) else (if M a0 4 ≤ x1 then (some 0) else (if 24 ≤ x1 then (some 0) else (if (0 : Int) ≤ x1 ∧ (x1 : Int) < 24 then some (M (a0 + 2) x1.toNat) else none)))
set_option maxHeartbeats 4000000 in
set_option maxRecDepth 100000 in
theorem mX4_operandAt {w : gW} {n : Nat} {Rm : Nat → Nat → Nat} {g : Nat → Nat} (hLC : gLC g n Rm) {l : Launch} (hl9 : l.stackTraces = false) {a0 : Nat} {x1 : Int} {M : gMem} {r : Int} (hg0 : g a0 = 5) (hr1 : gRI x1) (hf : fX4_operandAt g a0 x1 M = some r) : gMT w n Rm l yX4_operandAt cX4_operandAt 2 (some .int) 1 60 0 0 [.ref (w.1 + a0), .int (gi x1)] M (.inr (some (.int (gi r)))) M (gRI r) := by
  unfold fX4_operandAt at hf
  refine gMT.of hl9 (by decide +kernel) ((Nat.le_of_ble_eq_true rfl)) ?_
  intro p e s m below meth c hM hH ls hl
  have hM : gMC w p l s m ([.ref (w.1 + a0), .int (gi x1)] : List Value).toArray meth c cX4_operandAt 2 RX4 (some .int) := hM
  have hl : lv_has ls 2 [(0, .ref (w.1 + a0)), (1, .int (gi x1))] := hl
  refine lv_iload_n hM.fx.1 hM.fx.2.1 dX4_operandAt_0 rfl (lv_at hl 1 rfl) ?_
  refine r_if_lt (tgt := 30) hM.fx hr1 dX4_operandAt_1 (by decide) (fun h_1 => ?_) (fun h_1 => ?_)
  · have hf := gpos h_1 hf
    refine lv_iconst (v := gi (0)) hM.fx.1 hM.fx.2.1 dX4_operandAt_30 rfl ?_
    obtain rfl := Option.some.inj hf
    exact r_iret hM hH (gcR (k := 0) (by decide)) ⟨(Nat.le_of_ble_eq_true rfl), (Nat.le_of_ble_eq_true rfl)⟩ dX4_operandAt_31
  · have hf := gneg' h_1 hf
    refine lv_iload_n hM.fx.1 hM.fx.2.1 dX4_operandAt_4 rfl (lv_at hl 1 rfl) ?_
    refine lv_aload_n hM.fx.1 hM.fx.2.1 dX4_operandAt_5 rfl (lv_at hl 0 rfl) ?_
    refine r_getI hM.fx hM.kf hH fl_X4_25 (hLC.in hg0 (by decide)) dX4_operandAt_6 ?_
    have hr_2 := hH.2.2.i (hLC.in hg0 (by decide)).2.2 (by decide : glg 5 4 = false)
    refine r_icmp_ge (tgt := 30) hM.fx hr1 hr_2 dX4_operandAt_9 (by decide) (fun h_3 => ?_) (fun h_3 => ?_)
    · have hf := gpos h_3 hf
      refine lv_iconst (v := gi (0)) hM.fx.1 hM.fx.2.1 dX4_operandAt_30 rfl ?_
      obtain rfl := Option.some.inj hf
      exact r_iret hM hH (gcR (k := 0) (by decide)) ⟨(Nat.le_of_ble_eq_true rfl), (Nat.le_of_ble_eq_true rfl)⟩ dX4_operandAt_31
    · have hf := gneg' h_3 hf
      refine lv_iload_n hM.fx.1 hM.fx.2.1 dX4_operandAt_12 rfl (lv_at hl 1 rfl) ?_
      refine lv_aload_n hM.fx.1 hM.fx.2.1 dX4_operandAt_13 rfl (lv_at hl 0 rfl) ?_
      refine r_getR hM.fx hM.kf hH hLC fl_X4_15 hg0 gch_5_1 dX4_operandAt_14 ?_
      refine r_alen hM.fx hM.kf hH 0 rfl (hLC.in (hLC.ch hg0 (by decide) gch_5_1) (by decide)) (⟨by decide, by decide⟩ : gAr 400 0) rfl dX4_operandAt_17 ?_
      refine r_icmp_ge (tgt := 30) hM.fx hr1 (gcR (k := 24) (by decide)) dX4_operandAt_18 (by decide) (fun h_4 => ?_) (fun h_4 => ?_)
      · have hf := gpos h_4 hf
        refine lv_iconst (v := gi (0)) hM.fx.1 hM.fx.2.1 dX4_operandAt_30 rfl ?_
        obtain rfl := Option.some.inj hf
        exact r_iret hM hH (gcR (k := 0) (by decide)) ⟨(Nat.le_of_ble_eq_true rfl), (Nat.le_of_ble_eq_true rfl)⟩ dX4_operandAt_31
      · have hf := gneg' h_4 hf
        refine lv_aload_n hM.fx.1 hM.fx.2.1 dX4_operandAt_21 rfl (lv_at hl 0 rfl) ?_
        refine r_getR hM.fx hM.kf hH hLC fl_X4_15 hg0 gch_5_1 dX4_operandAt_22 ?_
        refine lv_iload_n hM.fx.1 hM.fx.2.1 dX4_operandAt_25 rfl (lv_at hl 1 rfl) ?_
        obtain ⟨g_5, hf⟩ := gif hf
        refine r_iald hM.fx hM.kf hH (hLC.in (hLC.ch hg0 (by decide) gch_5_1) (by decide)) (⟨by decide, by decide⟩ : gAr 400 0) hr1 g_5 dX4_operandAt_26 ?_
        have hr_6 := hH.2.2.i (k := x1.toNat) (hLC.in (hLC.ch hg0 (by decide) gch_5_1) (by decide)).2.2 (glg_a (⟨by decide, by decide⟩ : gAr 400 0))
        refine lv_goto (tgt := 31) hM.fx.1 hM.fx.2.1 dX4_operandAt_27 (by decide) ?_
        obtain rfl := Option.some.inj hf
        exact r_iret hM hH hr_6 ⟨(Nat.le_of_ble_eq_true rfl), (Nat.le_of_ble_eq_true rfl)⟩ dX4_operandAt_31
def fX4_hasCommand_30 (g : Nat → Nat) (k2 : Nat → Int → Int → Int → gMem → Option Int) (a0 : Nat) (x1 : Int) (x2 : Int) (x3 : Int) (M : gMem) : Option Int :=
  gst (gwi (x3 + 1)) fun x_1 => k2 a0 x1 x2 x_1 M
set_option maxHeartbeats 4000000 in
set_option maxRecDepth 100000 in
theorem wX4_hasCommand_30 {w : gW} {n : Nat} {Rm : Nat → Nat → Nat} {g : Nat → Nat} (hLC : gLC g n Rm) {p : Program} {l : Launch} {e : Env} {s : State} {m : MethodId} {args : Array Value} {below : List Frame} {meth : Method} {c : Code} (hM : gMC w p l s m args meth c cX4_hasCommand 4 RX4 (some .boolean)) (k2 : Nat → Int → Int → Int → gMem → Option Int) (hk2 : ∀ (a0 : Nat) (x1 : Int) (x2 : Int) (x3 : Int) (M : gMem) (r : Int) (hg0 : g a0 = 5) (hr1 : gRI x1) (hr2 : gRI x2) (hr3 : gRI x3) (hf : k2 a0 x1 x2 x3 M = some r) (H : Heap) (locs : List Loc) (ls : Array Slot) (hH : gH w n Rm M s H locs) (hl : lv_has ls 4 [(0, .ref (w.1 + a0)), (1, .int (gi x1)), (2, .int (gi x2)), (3, .int (gi x3))]), W p l e { frames := 2, cells := 0, slots := 0, locals := 81 } s m args below meth c H locs 0 0 (gQ w n Rm below args s 0 0 (.inr (some (.int (gi r)))) M (r = 0 ∨ r = 1)) (F0 m 2 ls [])) : ∀ (a0 : Nat) (x1 : Int) (x2 : Int) (x3 : Int) (M : gMem) (r : Int) (hg0 : g a0 = 5) (hr1 : gRI x1) (hr2 : gRI x2) (hr3 : gRI x3) (hf : fX4_hasCommand_30 g k2 a0 x1 x2 x3 M = some r) (H : Heap) (locs : List Loc) (ls : Array Slot) (hH : gH w n Rm M s H locs) (hl : lv_has ls 4 [(0, .ref (w.1 + a0)), (1, .int (gi x1)), (2, .int (gi x2)), (3, .int (gi x3))]), W p l e { frames := 2, cells := 0, slots := 0, locals := 81 } s m args below meth c H locs 0 0 (gQ w n Rm below args s 0 0 (.inr (some (.int (gi r)))) M (r = 0 ∨ r = 1)) (F0 m 30 ls []) := by
  intro a0 x1 x2 x3 M r hg0 hr1 hr2 hr3 hf H locs ls hH hl
  unfold fX4_hasCommand_30 at hf
  obtain ⟨x_1, ex_1, hf⟩ := gst_s hf
  have hx_1 : gRI x_1 := by rw [ex_1]; exact gwi_r _
  refine r_iinc (lv' := [(3, .int (gi x_1)), (0, .ref (w.1 + a0)), (1, .int (gi x1)), (2, .int (gi x2))]) hM.fx dX4_hasCommand_30 hl (k := 3) rfl (by decide) (by rw [ex_1]; rfl) (fun ls hl => ?_)
  refine lv_goto (tgt := 2) hM.fx.1 hM.fx.2.1 dX4_hasCommand_33 (by decide) ?_
  exact hk2 _ _ _ _ _ _ hg0 hr1 hr2 hx_1 hf _ _ _ hH (lv_sub hl [1, 2, 3, 0] rfl)
def fX4_hasCommand_2 (g : Nat → Nat)  : Nat → Nat → Int → Int → Int → gMem → Option Int
  | 0, _, _, _, _, _ => none
  | fu + 1, a0, x1, x2, x3, M => if M a0 4 ≤ x3 then (some 0) else ((fX4_kindAt g a0 x3 M).bind fun x_4 => if x_4 = x1 then ((fX4_operandAt g a0 x3 M).bind fun x_7 => if x_7 = x2 then (some 1) else (fX4_hasCommand_30 g (fX4_hasCommand_2 g fu) a0 x1 x2 x3 M)) else (fX4_hasCommand_30 g (fX4_hasCommand_2 g fu) a0 x1 x2 x3 M))
set_option maxHeartbeats 4000000 in
set_option maxRecDepth 100000 in
theorem wX4_hasCommand_2 {w : gW} {n : Nat} {Rm : Nat → Nat → Nat} {g : Nat → Nat} (hLC : gLC g n Rm) {p : Program} {l : Launch} {e : Env} {s : State} {m : MethodId} {args : Array Value} {below : List Frame} {meth : Method} {c : Code} (hM : gMC w p l s m args meth c cX4_hasCommand 4 RX4 (some .boolean))  : ∀ (fu : Nat), ∀ (a0 : Nat) (x1 : Int) (x2 : Int) (x3 : Int) (M : gMem) (r : Int) (hg0 : g a0 = 5) (hr1 : gRI x1) (hr2 : gRI x2) (hr3 : gRI x3) (hf : fX4_hasCommand_2 g fu a0 x1 x2 x3 M = some r) (H : Heap) (locs : List Loc) (ls : Array Slot) (hH : gH w n Rm M s H locs) (hl : lv_has ls 4 [(0, .ref (w.1 + a0)), (1, .int (gi x1)), (2, .int (gi x2)), (3, .int (gi x3))]), W p l e { frames := 2, cells := 0, slots := 0, locals := 81 } s m args below meth c H locs 0 0 (gQ w n Rm below args s 0 0 (.inr (some (.int (gi r)))) M (r = 0 ∨ r = 1)) (F0 m 2 ls []) := by
  intro fu
  induction fu with
  | zero =>
    intro a0 x1 x2 x3 M r hg0 hr1 hr2 hr3 hf H locs ls hH hl
    exact absurd hf (by simp [fX4_hasCommand_2])
  | succ fu ih =>
    intro a0 x1 x2 x3 M r hg0 hr1 hr2 hr3 hf H locs ls hH hl
    unfold fX4_hasCommand_2 at hf
    refine lv_iload_n hM.fx.1 hM.fx.2.1 dX4_hasCommand_2 rfl (lv_at hl 3 rfl) ?_
    refine lv_aload_n hM.fx.1 hM.fx.2.1 dX4_hasCommand_3 rfl (lv_at hl 0 rfl) ?_
    refine r_getI hM.fx hM.kf hH fl_X4_25 (hLC.in hg0 (by decide)) dX4_hasCommand_4 ?_
    have hr_1 := hH.2.2.i (hLC.in hg0 (by decide)).2.2 (by decide : glg 5 4 = false)
    refine r_icmp_ge (tgt := 36) hM.fx hr3 hr_1 dX4_hasCommand_7 (by decide) (fun h_2 => ?_) (fun h_2 => ?_)
    · have hf := gpos h_2 hf
      refine lv_iconst (v := gi (0)) hM.fx.1 hM.fx.2.1 dX4_hasCommand_36 rfl ?_
      obtain rfl := Option.some.inj hf
      exact r_zret hM hH (Or.inl rfl) (Or.inl rfl) ⟨(Nat.le_of_ble_eq_true rfl), (Nat.le_of_ble_eq_true rfl)⟩ dX4_hasCommand_37
    · have hf := gneg' h_2 hf
      refine lv_aload_n hM.fx.1 hM.fx.2.1 dX4_hasCommand_10 rfl (lv_at hl 0 rfl) ?_
      refine lv_iload_n hM.fx.1 hM.fx.2.1 dX4_hasCommand_11 rfl (lv_at hl 3 rfl) ?_
      obtain ⟨x_4, ex_4, hf⟩ := gbd hf
      refine r_go1 hH rfl (r_runV (As := [.int (gi x3)]) hM hH cv_X4_65 (mX4_kindAt hLC hM.ns hg0 hr3 ex_4) (hLC.in hg0 (by decide)) (by decide) rfl rfl rfl hl.1 rfl (Nat.le_of_ble_eq_true rfl) ⟨(Nat.le_of_ble_eq_true rfl), (Nat.le_of_ble_eq_true rfl)⟩ ⟨(Nat.le_of_ble_eq_true rfl), (Nat.le_of_ble_eq_true rfl)⟩ dX4_hasCommand_12) (fun hp_3 H locs hH => ?_)
      refine lv_iload_n hM.fx.1 hM.fx.2.1 dX4_hasCommand_15 rfl (lv_at hl 1 rfl) ?_
      refine r_icmp_ne (tgt := 30) hM.fx hp_3 hr1 dX4_hasCommand_16 (by decide) (fun h_5 => ?_) (fun h_5 => ?_)
      · have hf := gneg' h_5 hf
        exact wX4_hasCommand_30 hLC hM (fX4_hasCommand_2 g fu) ih  _ _ _ _ _ _ hg0 hr1 hr2 hr3 hf _ _ _ hH hl
      · have hf := gpos h_5 hf
        refine lv_aload_n hM.fx.1 hM.fx.2.1 dX4_hasCommand_19 rfl (lv_at hl 0 rfl) ?_
        refine lv_iload_n hM.fx.1 hM.fx.2.1 dX4_hasCommand_20 rfl (lv_at hl 3 rfl) ?_
        obtain ⟨x_7, ex_7, hf⟩ := gbd hf
        refine r_go1 hH rfl (r_runV (As := [.int (gi x3)]) hM hH cv_X4_69 (mX4_operandAt hLC hM.ns hg0 hr3 ex_7) (hLC.in hg0 (by decide)) (by decide) rfl rfl rfl hl.1 rfl (Nat.le_of_ble_eq_true rfl) ⟨(Nat.le_of_ble_eq_true rfl), (Nat.le_of_ble_eq_true rfl)⟩ ⟨(Nat.le_of_ble_eq_true rfl), (Nat.le_of_ble_eq_true rfl)⟩ dX4_hasCommand_21) (fun hp_6 H locs hH => ?_)
        refine lv_iload_n hM.fx.1 hM.fx.2.1 dX4_hasCommand_24 rfl (lv_at hl 2 rfl) ?_
        refine r_icmp_ne (tgt := 30) hM.fx hp_6 hr2 dX4_hasCommand_25 (by decide) (fun h_8 => ?_) (fun h_8 => ?_)
        · have hf := gneg' h_8 hf
          exact wX4_hasCommand_30 hLC hM (fX4_hasCommand_2 g fu) ih  _ _ _ _ _ _ hg0 hr1 hr2 hr3 hf _ _ _ hH hl
        · have hf := gpos h_8 hf
          refine lv_iconst (v := gi (1)) hM.fx.1 hM.fx.2.1 dX4_hasCommand_28 rfl ?_
          obtain rfl := Option.some.inj hf
          exact r_zret hM hH (Or.inr rfl) (Or.inr rfl) ⟨(Nat.le_of_ble_eq_true rfl), (Nat.le_of_ble_eq_true rfl)⟩ dX4_hasCommand_29
def fX4_hasCommand (g : Nat → Nat) (a0 : Nat) (x1 : Int) (x2 : Int) (M : gMem) : Option Int :=
  fX4_hasCommand_2 g gF a0 x1 x2 0 M
set_option maxHeartbeats 4000000 in
set_option maxRecDepth 100000 in
theorem mX4_hasCommand {w : gW} {n : Nat} {Rm : Nat → Nat → Nat} {g : Nat → Nat} (hLC : gLC g n Rm) {l : Launch} (hl9 : l.stackTraces = false) {a0 : Nat} {x1 : Int} {x2 : Int} {M : gMem} {r : Int} (hg0 : g a0 = 5) (hr1 : gRI x1) (hr2 : gRI x2) (hf : fX4_hasCommand g a0 x1 x2 M = some r) : gMT w n Rm l yX4_hasCommand cX4_hasCommand 4 (some .boolean) 2 81 0 0 [.ref (w.1 + a0), .int (gi x1), .int (gi x2)] M (.inr (some (.int (gi r)))) M (r = 0 ∨ r = 1) := by
  unfold fX4_hasCommand at hf
  refine gMT.of hl9 (by decide +kernel) ((Nat.le_of_ble_eq_true rfl)) ?_
  intro p e s m below meth c hM hH ls hl
  have hM : gMC w p l s m ([.ref (w.1 + a0), .int (gi x1), .int (gi x2)] : List Value).toArray meth c cX4_hasCommand 4 RX4 (some .boolean) := hM
  have hl : lv_has ls 4 [(0, .ref (w.1 + a0)), (1, .int (gi x1)), (2, .int (gi x2))] := hl
  refine lv_iconst (v := gi (0)) hM.fx.1 hM.fx.2.1 dX4_hasCommand_0 rfl ?_
  refine lv_istore_n (lv' := [(3, .int (gi 0)), (0, .ref (w.1 + a0)), (1, .int (gi x1)), (2, .int (gi x2))]) hM.fx.1 hM.fx.2.1 dX4_hasCommand_1 rfl hl (by decide) rfl (fun ls hl => ?_)
  exact wX4_hasCommand_2 hLC hM  gF _ _ _ _ _ _ hg0 hr1 hr2 (gcR (k := 0) (by decide)) hf _ _ _ hH (lv_sub hl [1, 2, 3, 0] rfl)
def fX4_mayUse (g : Nat → Nat) (a0 : Nat) (x1 : Int) (M : gMem) : Option Int :=
  if gand (gshr (M a0 6) x1) 1 = 0 then (some 0) else (some 1)
set_option maxHeartbeats 4000000 in
set_option maxRecDepth 100000 in
theorem mX4_mayUse {w : gW} {n : Nat} {Rm : Nat → Nat → Nat} {g : Nat → Nat} (hLC : gLC g n Rm) {l : Launch} (hl9 : l.stackTraces = false) {a0 : Nat} {x1 : Int} {M : gMem} {r : Int} (hg0 : g a0 = 5) (hr1 : gRI x1) (hf : fX4_mayUse g a0 x1 M = some r) : gMT w n Rm l yX4_mayUse cX4_mayUse 2 (some .boolean) 1 60 0 0 [.ref (w.1 + a0), .int (gi x1)] M (.inr (some (.int (gi r)))) M (r = 0 ∨ r = 1) := by
  unfold fX4_mayUse at hf
  refine gMT.of hl9 (by decide +kernel) ((Nat.le_of_ble_eq_true rfl)) ?_
  intro p e s m below meth c hM hH ls hl
  have hM : gMC w p l s m ([.ref (w.1 + a0), .int (gi x1)] : List Value).toArray meth c cX4_mayUse 2 RX4 (some .boolean) := hM
  have hl : lv_has ls 2 [(0, .ref (w.1 + a0)), (1, .int (gi x1))] := hl
  refine lv_aload_n hM.fx.1 hM.fx.2.1 dX4_mayUse_0 rfl (lv_at hl 0 rfl) ?_
  refine r_getI hM.fx hM.kf hH fl_X4_32 (hLC.in hg0 (by decide)) dX4_mayUse_1 ?_
  have hr_1 := hH.2.2.i (hLC.in hg0 (by decide)).2.2 (by decide : glg 5 6 = false)
  refine lv_iload_n hM.fx.1 hM.fx.2.1 dX4_mayUse_4 rfl (lv_at hl 1 rfl) ?_
  refine r_ishr hM.fx dX4_mayUse_5 ?_
  refine lv_iconst (v := gi (1)) hM.fx.1 hM.fx.2.1 dX4_mayUse_6 rfl ?_
  refine r_iand hM.fx dX4_mayUse_7 ?_
  refine r_if_eq (tgt := 15) hM.fx (gi_r _) dX4_mayUse_8 (by decide) (fun h_2 => ?_) (fun h_2 => ?_)
  · have hf := gpos h_2 hf
    refine lv_iconst (v := gi (0)) hM.fx.1 hM.fx.2.1 dX4_mayUse_15 rfl ?_
    obtain rfl := Option.some.inj hf
    exact r_zret hM hH (Or.inl rfl) (Or.inl rfl) ⟨(Nat.le_of_ble_eq_true rfl), (Nat.le_of_ble_eq_true rfl)⟩ dX4_mayUse_16
  · have hf := gneg' h_2 hf
    refine lv_iconst (v := gi (1)) hM.fx.1 hM.fx.2.1 dX4_mayUse_11 rfl ?_
    refine lv_goto (tgt := 16) hM.fx.1 hM.fx.2.1 dX4_mayUse_12 (by decide) ?_
    obtain rfl := Option.some.inj hf
    exact r_zret hM hH (Or.inr rfl) (Or.inr rfl) ⟨(Nat.le_of_ble_eq_true rfl), (Nat.le_of_ble_eq_true rfl)⟩ dX4_mayUse_16
def fX4_keepSaying_28 (g : Nat → Nat)  (a0 : Nat) (M : gMem) : Option gMem :=
  gst (gup M a0 14 (gwi (M a0 14 + 1))) fun M_2 => some M_2
set_option maxHeartbeats 4000000 in
set_option maxRecDepth 100000 in
theorem wX4_keepSaying_28 {w : gW} {n : Nat} {Rm : Nat → Nat → Nat} {g : Nat → Nat} (hLC : gLC g n Rm) {p : Program} {l : Launch} {e : Env} {s : State} {m : MethodId} {args : Array Value} {below : List Frame} {meth : Method} {c : Code} (hM : gMC w p l s m args meth c cX4_keepSaying 3 RX4 none)  : ∀ (a0 : Nat) (M : gMem) (r : gMem) (hg0 : g a0 = 5) (hf : fX4_keepSaying_28 g a0 M = some r) (H : Heap) (locs : List Loc) (ls : Array Slot) (hH : gH w n Rm M s H locs) (hl : lv_has ls 3 [(0, .ref (w.1 + a0))]), W p l e { frames := 1, cells := 0, slots := 0, locals := 60 } s m args below meth c H locs 0 0 (gQ w n Rm below args s 0 0 (.inr none) r True) (F0 m 28 ls []) := by
  intro a0 M r hg0 hf H locs ls hH hl
  unfold fX4_keepSaying_28 at hf
  refine lv_aload_n hM.fx.1 hM.fx.2.1 dX4_keepSaying_28 rfl (lv_at hl 0 rfl) ?_
  refine lv_dup hM.fx.1 hM.fx.2.1 dX4_keepSaying_29 rfl ?_
  refine r_getI hM.fx hM.kf hH fl_X4_56 (hLC.in hg0 (by decide)) dX4_keepSaying_30 ?_
  have hr_1 := hH.2.2.i (hLC.in hg0 (by decide)).2.2 (by decide : glg 5 14 = false)
  refine lv_iconst (v := gi (1)) hM.fx.1 hM.fx.2.1 dX4_keepSaying_33 rfl ?_
  refine r_iadd hM.fx dX4_keepSaying_34 ?_
  refine r_putI hM.fx hM.kf hH fp_X4_56 (hLC.in hg0 (by decide)) (gwi_r _) dX4_keepSaying_35 (fun H locs hH => ?_)
  obtain ⟨M_2, eM_2, hf⟩ := gst_s hf
  rw [← eM_2] at hH
  obtain rfl := Option.some.inj hf
  exact r_vret hM hH trivial ⟨(Nat.le_of_ble_eq_true rfl), (Nat.le_of_ble_eq_true rfl)⟩ dX4_keepSaying_38
def fX4_keepSaying (g : Nat → Nat) (a0 : Nat) (x1 : Int) (M : gMem) : Option gMem :=
  gst ((M a0 14).tmod 20) fun x_2 => if x_2 < 0 then (fX4_keepSaying_28 g a0 M) else (if 20 ≤ x_2 then (fX4_keepSaying_28 g a0 M) else (if (0 : Int) ≤ x_2 ∧ (x_2 : Int) < 20 then gst (gup M (a0 + 3) x_2.toNat x1) fun M_6 => fX4_keepSaying_28 g a0 M_6 else none))
set_option maxHeartbeats 4000000 in
set_option maxRecDepth 100000 in
theorem mX4_keepSaying {w : gW} {n : Nat} {Rm : Nat → Nat → Nat} {g : Nat → Nat} (hLC : gLC g n Rm) {l : Launch} (hl9 : l.stackTraces = false) {a0 : Nat} {x1 : Int} {M : gMem} {r : gMem} (hg0 : g a0 = 5) (hr1 : gRI x1) (hf : fX4_keepSaying g a0 x1 M = some r) : gMT w n Rm l yX4_keepSaying cX4_keepSaying 3 none 1 60 0 0 [.ref (w.1 + a0), .int (gi x1)] M (.inr none) r True := by
  unfold fX4_keepSaying at hf
  refine gMT.of hl9 (by decide +kernel) ((Nat.le_of_ble_eq_true rfl)) ?_
  intro p e s m below meth c hM hH ls hl
  have hM : gMC w p l s m ([.ref (w.1 + a0), .int (gi x1)] : List Value).toArray meth c cX4_keepSaying 3 RX4 none := hM
  have hl : lv_has ls 3 [(0, .ref (w.1 + a0)), (1, .int (gi x1))] := hl
  refine lv_aload_n hM.fx.1 hM.fx.2.1 dX4_keepSaying_0 rfl (lv_at hl 0 rfl) ?_
  refine r_getI hM.fx hM.kf hH fl_X4_56 (hLC.in hg0 (by decide)) dX4_keepSaying_1 ?_
  have hr_1 := hH.2.2.i (hLC.in hg0 (by decide)).2.2 (by decide : glg 5 14 = false)
  refine lv_bipush (v := gi (20)) hM.fx.1 hM.fx.2.1 dX4_keepSaying_4 (by decide) ?_
  refine r_irem hM.fx hr_1 (gcR (k := 20) (by decide)) (by decide) dX4_keepSaying_6 ?_
  obtain ⟨x_2, ex_2, hf⟩ := gst_s hf
  refine W.eq (g2 := F0 m _ ls (.int (gi x_2) :: _)) (by rw [ex_2]) ?_
  have hx_2 : gRI x_2 := by rw [ex_2]; exact (gtmod_r hr_1)
  refine lv_istore_n (lv' := [(2, .int (gi x_2)), (0, .ref (w.1 + a0)), (1, .int (gi x1))]) hM.fx.1 hM.fx.2.1 dX4_keepSaying_7 rfl hl (by decide) rfl (fun ls hl => ?_)
  refine lv_iload_n hM.fx.1 hM.fx.2.1 dX4_keepSaying_8 rfl (lv_at hl 0 rfl) ?_
  refine r_if_lt (tgt := 28) hM.fx hx_2 dX4_keepSaying_9 (by decide) (fun h_3 => ?_) (fun h_3 => ?_)
  · have hf := gpos h_3 hf
    exact wX4_keepSaying_28 hLC hM   _ _ _ hg0 hf _ _ _ hH (lv_sub hl [1] rfl)
  · have hf := gneg' h_3 hf
    refine lv_iload_n hM.fx.1 hM.fx.2.1 dX4_keepSaying_12 rfl (lv_at hl 0 rfl) ?_
    refine lv_aload_n hM.fx.1 hM.fx.2.1 dX4_keepSaying_13 rfl (lv_at hl 1 rfl) ?_
    refine r_getR hM.fx hM.kf hH hLC fl_X4_18 hg0 gch_5_2 dX4_keepSaying_14 ?_
    refine r_alen hM.fx hM.kf hH 0 rfl (hLC.in (hLC.ch hg0 (by decide) gch_5_2) (by decide)) (⟨by decide, by decide⟩ : gAr 336 0) rfl dX4_keepSaying_17 ?_
    refine r_icmp_ge (tgt := 28) hM.fx hx_2 (gcR (k := 20) (by decide)) dX4_keepSaying_18 (by decide) (fun h_4 => ?_) (fun h_4 => ?_)
    · have hf := gpos h_4 hf
      exact wX4_keepSaying_28 hLC hM   _ _ _ hg0 hf _ _ _ hH (lv_sub hl [1] rfl)
    · have hf := gneg' h_4 hf
      refine lv_aload_n hM.fx.1 hM.fx.2.1 dX4_keepSaying_21 rfl (lv_at hl 1 rfl) ?_
      refine r_getR hM.fx hM.kf hH hLC fl_X4_18 hg0 gch_5_2 dX4_keepSaying_22 ?_
      refine lv_iload_n hM.fx.1 hM.fx.2.1 dX4_keepSaying_25 rfl (lv_at hl 0 rfl) ?_
      refine lv_iload_n hM.fx.1 hM.fx.2.1 dX4_keepSaying_26 rfl (lv_at hl 2 rfl) ?_
      obtain ⟨g_5, hf⟩ := gif hf
      refine r_iast hM.fx hM.kf hH (hLC.in (hLC.ch hg0 (by decide) gch_5_2) (by decide)) (⟨by decide, by decide⟩ : gAr 336 0) hx_2 g_5 hr1 dX4_keepSaying_27 (fun H locs hH => ?_)
      obtain ⟨M_6, eM_6, hf⟩ := gst_s hf
      rw [← eM_6] at hH
      exact wX4_keepSaying_28 hLC hM   _ _ _ hg0 hf _ _ _ hH (lv_sub hl [1] rfl)
def fX4_sayingAt_18 (g : Nat → Nat)  (M : gMem) : Option Int :=
  some (-1000000)
set_option maxHeartbeats 4000000 in
set_option maxRecDepth 100000 in
theorem wX4_sayingAt_18 {w : gW} {n : Nat} {Rm : Nat → Nat → Nat} {g : Nat → Nat} (hLC : gLC g n Rm) {p : Program} {l : Launch} {e : Env} {s : State} {m : MethodId} {args : Array Value} {below : List Frame} {meth : Method} {c : Code} (hM : gMC w p l s m args meth c cX4_sayingAt 3 RX4 (some .int))  : ∀  (M : gMem) (r : Int)  (hf : fX4_sayingAt_18 g M = some r) (H : Heap) (locs : List Loc) (ls : Array Slot) (hH : gH w n Rm M s H locs) (hl : lv_has ls 3 []), W p l e { frames := 1, cells := 0, slots := 0, locals := 60 } s m args below meth c H locs 0 0 (gQ w n Rm below args s 0 0 (.inr (some (.int (gi r)))) M (gRI r)) (F0 m 18 ls []) := by
  intro M r hf H locs ls hH hl
  unfold fX4_sayingAt_18 at hf
  refine r_ldc (x := -1000000) hM.fx gw_1040 (by decide) dX4_sayingAt_18 ?_
  obtain rfl := Option.some.inj hf
  exact r_iret hM hH (gcR (k := -1000000) (by decide)) ⟨(Nat.le_of_ble_eq_true rfl), (Nat.le_of_ble_eq_true rfl)⟩ dX4_sayingAt_20
def fX4_sayingAt_55 (g : Nat → Nat)  (M : gMem) : Option Int :=
  some (-1000000)
set_option maxHeartbeats 4000000 in
set_option maxRecDepth 100000 in
theorem wX4_sayingAt_55 {w : gW} {n : Nat} {Rm : Nat → Nat → Nat} {g : Nat → Nat} (hLC : gLC g n Rm) {p : Program} {l : Launch} {e : Env} {s : State} {m : MethodId} {args : Array Value} {below : List Frame} {meth : Method} {c : Code} (hM : gMC w p l s m args meth c cX4_sayingAt 3 RX4 (some .int))  : ∀  (M : gMem) (r : Int)  (hf : fX4_sayingAt_55 g M = some r) (H : Heap) (locs : List Loc) (ls : Array Slot) (hH : gH w n Rm M s H locs) (hl : lv_has ls 3 []), W p l e { frames := 1, cells := 0, slots := 0, locals := 60 } s m args below meth c H locs 0 0 (gQ w n Rm below args s 0 0 (.inr (some (.int (gi r)))) M (gRI r)) (F0 m 55 ls []) := by
  intro M r hf H locs ls hH hl
  unfold fX4_sayingAt_55 at hf
  refine r_ldc (x := -1000000) hM.fx gw_1040 (by decide) dX4_sayingAt_55 ?_
  obtain rfl := Option.some.inj hf
  exact r_iret hM hH (gcR (k := -1000000) (by decide)) ⟨(Nat.le_of_ble_eq_true rfl), (Nat.le_of_ble_eq_true rfl)⟩ dX4_sayingAt_57
def fX4_sayingAt (g : Nat → Nat) (a0 : Nat) (x1 : Int) (M : gMem) : Option Int :=
  if x1 < 0 then (fX4_sayingAt_18 g M) else (if 20 ≤ x1 then (fX4_sayingAt_18 g M) else (if x1 < M a0 14 then (gst ((gwi (gwi (M a0 14 - 1) - x1)).tmod 20) fun x_6 => if x_6 < 0 then (fX4_sayingAt_55 g M) else (if 20 ≤ x_6 then (fX4_sayingAt_55 g M) else (if (0 : Int) ≤ x_6 ∧ (x_6 : Int) < 20 then some (M (a0 + 3) x_6.toNat) else none))) else (fX4_sayingAt_18 g M)))
set_option maxHeartbeats 4000000 in
set_option maxRecDepth 100000 in
theorem mX4_sayingAt {w : gW} {n : Nat} {Rm : Nat → Nat → Nat} {g : Nat → Nat} (hLC : gLC g n Rm) {l : Launch} (hl9 : l.stackTraces = false) {a0 : Nat} {x1 : Int} {M : gMem} {r : Int} (hg0 : g a0 = 5) (hr1 : gRI x1) (hf : fX4_sayingAt g a0 x1 M = some r) : gMT w n Rm l yX4_sayingAt cX4_sayingAt 3 (some .int) 1 60 0 0 [.ref (w.1 + a0), .int (gi x1)] M (.inr (some (.int (gi r)))) M (gRI r) := by
  unfold fX4_sayingAt at hf
  refine gMT.of hl9 (by decide +kernel) ((Nat.le_of_ble_eq_true rfl)) ?_
  intro p e s m below meth c hM hH ls hl
  have hM : gMC w p l s m ([.ref (w.1 + a0), .int (gi x1)] : List Value).toArray meth c cX4_sayingAt 3 RX4 (some .int) := hM
  have hl : lv_has ls 3 [(0, .ref (w.1 + a0)), (1, .int (gi x1))] := hl
  refine lv_iload_n hM.fx.1 hM.fx.2.1 dX4_sayingAt_0 rfl (lv_at hl 1 rfl) ?_
  refine r_if_lt (tgt := 18) hM.fx hr1 dX4_sayingAt_1 (by decide) (fun h_1 => ?_) (fun h_1 => ?_)
  · have hf := gpos h_1 hf
    exact wX4_sayingAt_18 hLC hM   _ _ hf _ _ _ hH (lv_sub hl [] rfl)
  · have hf := gneg' h_1 hf
    refine lv_iload_n hM.fx.1 hM.fx.2.1 dX4_sayingAt_4 rfl (lv_at hl 1 rfl) ?_
    refine lv_bipush (v := gi (20)) hM.fx.1 hM.fx.2.1 dX4_sayingAt_5 (by decide) ?_
    refine r_icmp_ge (tgt := 18) hM.fx hr1 (gcR (k := 20) (by decide)) dX4_sayingAt_7 (by decide) (fun h_2 => ?_) (fun h_2 => ?_)
    · have hf := gpos h_2 hf
      exact wX4_sayingAt_18 hLC hM   _ _ hf _ _ _ hH (lv_sub hl [] rfl)
    · have hf := gneg' h_2 hf
      refine lv_iload_n hM.fx.1 hM.fx.2.1 dX4_sayingAt_10 rfl (lv_at hl 1 rfl) ?_
      refine lv_aload_n hM.fx.1 hM.fx.2.1 dX4_sayingAt_11 rfl (lv_at hl 0 rfl) ?_
      refine r_getI hM.fx hM.kf hH fl_X4_56 (hLC.in hg0 (by decide)) dX4_sayingAt_12 ?_
      have hr_3 := hH.2.2.i (hLC.in hg0 (by decide)).2.2 (by decide : glg 5 14 = false)
      refine r_icmp_lt (tgt := 21) hM.fx hr1 hr_3 dX4_sayingAt_15 (by decide) (fun h_4 => ?_) (fun h_4 => ?_)
      · have hf := gpos h_4 hf
        refine lv_aload_n hM.fx.1 hM.fx.2.1 dX4_sayingAt_21 rfl (lv_at hl 0 rfl) ?_
        refine r_getI hM.fx hM.kf hH fl_X4_56 (hLC.in hg0 (by decide)) dX4_sayingAt_22 ?_
        have hr_5 := hH.2.2.i (hLC.in hg0 (by decide)).2.2 (by decide : glg 5 14 = false)
        refine lv_iconst (v := gi (1)) hM.fx.1 hM.fx.2.1 dX4_sayingAt_25 rfl ?_
        refine r_isub hM.fx dX4_sayingAt_26 ?_
        refine lv_iload_n hM.fx.1 hM.fx.2.1 dX4_sayingAt_27 rfl (lv_at hl 1 rfl) ?_
        refine r_isub hM.fx dX4_sayingAt_28 ?_
        refine lv_bipush (v := gi (20)) hM.fx.1 hM.fx.2.1 dX4_sayingAt_29 (by decide) ?_
        refine r_irem hM.fx (gwi_r _) (gcR (k := 20) (by decide)) (by decide) dX4_sayingAt_31 ?_
        obtain ⟨x_6, ex_6, hf⟩ := gst_s hf
        refine W.eq (g2 := F0 m _ ls (.int (gi x_6) :: _)) (by rw [ex_6]) ?_
        have hx_6 : gRI x_6 := by rw [ex_6]; exact (gtmod_r (gwi_r _))
        refine lv_istore_n (lv' := [(2, .int (gi x_6)), (0, .ref (w.1 + a0)), (1, .int (gi x1))]) hM.fx.1 hM.fx.2.1 dX4_sayingAt_32 rfl hl (by decide) rfl (fun ls hl => ?_)
        refine lv_iload_n hM.fx.1 hM.fx.2.1 dX4_sayingAt_33 rfl (lv_at hl 0 rfl) ?_
        refine r_if_lt (tgt := 55) hM.fx hx_6 dX4_sayingAt_34 (by decide) (fun h_7 => ?_) (fun h_7 => ?_)
        · have hf := gpos h_7 hf
          exact wX4_sayingAt_55 hLC hM   _ _ hf _ _ _ hH (lv_sub hl [] rfl)
        · have hf := gneg' h_7 hf
          refine lv_iload_n hM.fx.1 hM.fx.2.1 dX4_sayingAt_37 rfl (lv_at hl 0 rfl) ?_
          refine lv_aload_n hM.fx.1 hM.fx.2.1 dX4_sayingAt_38 rfl (lv_at hl 1 rfl) ?_
          refine r_getR hM.fx hM.kf hH hLC fl_X4_18 hg0 gch_5_2 dX4_sayingAt_39 ?_
          refine r_alen hM.fx hM.kf hH 0 rfl (hLC.in (hLC.ch hg0 (by decide) gch_5_2) (by decide)) (⟨by decide, by decide⟩ : gAr 336 0) rfl dX4_sayingAt_42 ?_
          refine r_icmp_ge (tgt := 55) hM.fx hx_6 (gcR (k := 20) (by decide)) dX4_sayingAt_43 (by decide) (fun h_8 => ?_) (fun h_8 => ?_)
          · have hf := gpos h_8 hf
            exact wX4_sayingAt_55 hLC hM   _ _ hf _ _ _ hH (lv_sub hl [] rfl)
          · have hf := gneg' h_8 hf
            refine lv_aload_n hM.fx.1 hM.fx.2.1 dX4_sayingAt_46 rfl (lv_at hl 1 rfl) ?_
            refine r_getR hM.fx hM.kf hH hLC fl_X4_18 hg0 gch_5_2 dX4_sayingAt_47 ?_
            refine lv_iload_n hM.fx.1 hM.fx.2.1 dX4_sayingAt_50 rfl (lv_at hl 0 rfl) ?_
            obtain ⟨g_9, hf⟩ := gif hf
            refine r_iald hM.fx hM.kf hH (hLC.in (hLC.ch hg0 (by decide) gch_5_2) (by decide)) (⟨by decide, by decide⟩ : gAr 336 0) hx_6 g_9 dX4_sayingAt_51 ?_
            have hr_10 := hH.2.2.i (k := x_6.toNat) (hLC.in (hLC.ch hg0 (by decide) gch_5_2) (by decide)).2.2 (glg_a (⟨by decide, by decide⟩ : gAr 336 0))
            refine lv_goto (tgt := 57) hM.fx.1 hM.fx.2.1 dX4_sayingAt_52 (by decide) ?_
            obtain rfl := Option.some.inj hf
            exact r_iret hM hH hr_10 ⟨(Nat.le_of_ble_eq_true rfl), (Nat.le_of_ble_eq_true rfl)⟩ dX4_sayingAt_57
      · have hf := gneg' h_4 hf
        exact wX4_sayingAt_18 hLC hM   _ _ hf _ _ _ hH (lv_sub hl [] rfl)
def fX5_addBytes_59 (g : Nat → Nat) (k3 : Nat → Int → Int → gMem → Option gMem) (a0 : Nat) (x1 : Int) (x2 : Int) (M : gMem) : Option gMem :=
  gst (gwi (x2 + (-8))) fun x_1 => k3 a0 x1 x_1 M
set_option maxHeartbeats 4000000 in
set_option maxRecDepth 100000 in
theorem wX5_addBytes_59 {w : gW} {n : Nat} {Rm : Nat → Nat → Nat} {g : Nat → Nat} (hLC : gLC g n Rm) {p : Program} {l : Launch} {e : Env} {s : State} {m : MethodId} {args : Array Value} {below : List Frame} {meth : Method} {c : Code} (hM : gMC w p l s m args meth c cX5_addBytes 4 RX5 none) (k3 : Nat → Int → Int → gMem → Option gMem) (hk3 : ∀ (a0 : Nat) (x1 : Int) (x2 : Int) (M : gMem) (r : gMem) (hg0 : g a0 = 6) (hr1 : gRI x1) (hr2 : gRI x2) (hf : k3 a0 x1 x2 M = some r) (H : Heap) (locs : List Loc) (ls : Array Slot) (hH : gH w n Rm M s H locs) (hl : lv_has ls 4 [(0, .ref (w.1 + a0)), (1, .int (gi x1)), (2, .int (gi x2))]), W p l e { frames := 1, cells := 0, slots := 0, locals := 60 } s m args below meth c H locs 0 0 (gQ w n Rm below args s 0 0 (.inr none) r True) (F0 m 3 ls [])) : ∀ (a0 : Nat) (x1 : Int) (x2 : Int) (M : gMem) (r : gMem) (hg0 : g a0 = 6) (hr1 : gRI x1) (hr2 : gRI x2) (hf : fX5_addBytes_59 g k3 a0 x1 x2 M = some r) (H : Heap) (locs : List Loc) (ls : Array Slot) (hH : gH w n Rm M s H locs) (hl : lv_has ls 4 [(0, .ref (w.1 + a0)), (1, .int (gi x1)), (2, .int (gi x2))]), W p l e { frames := 1, cells := 0, slots := 0, locals := 60 } s m args below meth c H locs 0 0 (gQ w n Rm below args s 0 0 (.inr none) r True) (F0 m 59 ls []) := by
  intro a0 x1 x2 M r hg0 hr1 hr2 hf H locs ls hH hl
  unfold fX5_addBytes_59 at hf
  obtain ⟨x_1, ex_1, hf⟩ := gst_s hf
  have hx_1 : gRI x_1 := by rw [ex_1]; exact gwi_r _
  refine r_iinc (lv' := [(2, .int (gi x_1)), (0, .ref (w.1 + a0)), (1, .int (gi x1))]) hM.fx dX5_addBytes_59 hl (k := 2) rfl (by decide) (by rw [ex_1]; rfl) (fun ls hl => ?_)
  refine lv_goto (tgt := 3) hM.fx.1 hM.fx.2.1 dX5_addBytes_62 (by decide) ?_
  exact hk3 _ _ _ _ _ hg0 hr1 hx_1 hf _ _ _ hH (lv_sub hl [1, 2, 0] rfl)
def fX5_addBytes_3 (g : Nat → Nat)  : Nat → Nat → Int → Int → gMem → Option gMem
  | 0, _, _, _, _ => none
  | fu + 1, a0, x1, x2, M => if x2 < 0 then (some M) else (gst (gand (gshr x1 x2) 255) fun x_2 => if x_2 = 0 then (fX5_addBytes_59 g (fX5_addBytes_3 g fu) a0 x1 x2 M) else (if M a0 2 < 0 then (fX5_addBytes_59 g (fX5_addBytes_3 g fu) a0 x1 x2 M) else (if 600 ≤ M a0 2 then (fX5_addBytes_59 g (fX5_addBytes_3 g fu) a0 x1 x2 M) else (if (0 : Int) ≤ M a0 2 ∧ (M a0 2 : Int) < 600 then gst (gup M (a0 + 1) (M a0 2).toNat (gwb (gwb x_2))) fun M_10 => gst (gup M_10 a0 2 (gwi (M_10 a0 2 + 1))) fun M_12 => fX5_addBytes_59 g (fX5_addBytes_3 g fu) a0 x1 x2 M_12 else none))))
set_option maxHeartbeats 4000000 in
set_option maxRecDepth 100000 in
theorem wX5_addBytes_3 {w : gW} {n : Nat} {Rm : Nat → Nat → Nat} {g : Nat → Nat} (hLC : gLC g n Rm) {p : Program} {l : Launch} {e : Env} {s : State} {m : MethodId} {args : Array Value} {below : List Frame} {meth : Method} {c : Code} (hM : gMC w p l s m args meth c cX5_addBytes 4 RX5 none)  : ∀ (fu : Nat), ∀ (a0 : Nat) (x1 : Int) (x2 : Int) (M : gMem) (r : gMem) (hg0 : g a0 = 6) (hr1 : gRI x1) (hr2 : gRI x2) (hf : fX5_addBytes_3 g fu a0 x1 x2 M = some r) (H : Heap) (locs : List Loc) (ls : Array Slot) (hH : gH w n Rm M s H locs) (hl : lv_has ls 4 [(0, .ref (w.1 + a0)), (1, .int (gi x1)), (2, .int (gi x2))]), W p l e { frames := 1, cells := 0, slots := 0, locals := 60 } s m args below meth c H locs 0 0 (gQ w n Rm below args s 0 0 (.inr none) r True) (F0 m 3 ls []) := by
  intro fu
  induction fu with
  | zero =>
    intro a0 x1 x2 M r hg0 hr1 hr2 hf H locs ls hH hl
    exact absurd hf (by simp [fX5_addBytes_3])
  | succ fu ih =>
    intro a0 x1 x2 M r hg0 hr1 hr2 hf H locs ls hH hl
    unfold fX5_addBytes_3 at hf
    refine lv_iload_n hM.fx.1 hM.fx.2.1 dX5_addBytes_3 rfl (lv_at hl 2 rfl) ?_
    refine r_if_lt (tgt := 65) hM.fx hr2 dX5_addBytes_4 (by decide) (fun h_1 => ?_) (fun h_1 => ?_)
    · have hf := gpos h_1 hf
      obtain rfl := Option.some.inj hf
      exact r_vret hM hH trivial ⟨(Nat.le_of_ble_eq_true rfl), (Nat.le_of_ble_eq_true rfl)⟩ dX5_addBytes_65
    · have hf := gneg' h_1 hf
      refine lv_iload_n hM.fx.1 hM.fx.2.1 dX5_addBytes_7 rfl (lv_at hl 1 rfl) ?_
      refine lv_iload_n hM.fx.1 hM.fx.2.1 dX5_addBytes_8 rfl (lv_at hl 2 rfl) ?_
      refine r_ishr hM.fx dX5_addBytes_9 ?_
      refine lv_sipush (v := gi (255)) hM.fx.1 hM.fx.2.1 dX5_addBytes_10 (by decide) ?_
      refine r_iand hM.fx dX5_addBytes_13 ?_
      obtain ⟨x_2, ex_2, hf⟩ := gst_s hf
      refine W.eq (g2 := F0 m _ ls (.int (gi x_2) :: _)) (by rw [ex_2]) ?_
      have hx_2 : gRI x_2 := by rw [ex_2]; exact (gi_r _)
      refine lv_istore_n (lv' := [(3, .int (gi x_2)), (0, .ref (w.1 + a0)), (1, .int (gi x1)), (2, .int (gi x2))]) hM.fx.1 hM.fx.2.1 dX5_addBytes_14 rfl hl (by decide) rfl (fun ls hl => ?_)
      refine lv_iload_n hM.fx.1 hM.fx.2.1 dX5_addBytes_15 rfl (lv_at hl 0 rfl) ?_
      refine r_if_eq (tgt := 59) hM.fx hx_2 dX5_addBytes_16 (by decide) (fun h_3 => ?_) (fun h_3 => ?_)
      · have hf := gpos h_3 hf
        exact wX5_addBytes_59 hLC hM (fX5_addBytes_3 g fu) ih  _ _ _ _ _ hg0 hr1 hr2 hf _ _ _ hH (lv_sub hl [1, 2, 3] rfl)
      · have hf := gneg' h_3 hf
        refine lv_aload_n hM.fx.1 hM.fx.2.1 dX5_addBytes_19 rfl (lv_at hl 1 rfl) ?_
        refine r_getI hM.fx hM.kf hH fl_X5_26 (hLC.in hg0 (by decide)) dX5_addBytes_20 ?_
        have hr_4 := hH.2.2.i (hLC.in hg0 (by decide)).2.2 (by decide : glg 6 2 = false)
        refine r_if_lt (tgt := 59) hM.fx hr_4 dX5_addBytes_23 (by decide) (fun h_5 => ?_) (fun h_5 => ?_)
        · have hf := gpos h_5 hf
          exact wX5_addBytes_59 hLC hM (fX5_addBytes_3 g fu) ih  _ _ _ _ _ hg0 hr1 hr2 hf _ _ _ hH (lv_sub hl [1, 2, 3] rfl)
        · have hf := gneg' h_5 hf
          refine lv_aload_n hM.fx.1 hM.fx.2.1 dX5_addBytes_26 rfl (lv_at hl 1 rfl) ?_
          refine r_getI hM.fx hM.kf hH fl_X5_26 (hLC.in hg0 (by decide)) dX5_addBytes_27 ?_
          have hr_6 := hH.2.2.i (hLC.in hg0 (by decide)).2.2 (by decide : glg 6 2 = false)
          refine lv_aload_n hM.fx.1 hM.fx.2.1 dX5_addBytes_30 rfl (lv_at hl 1 rfl) ?_
          refine r_getR hM.fx hM.kf hH hLC fl_X5_9 hg0 gch_6_0 dX5_addBytes_31 ?_
          refine r_alen hM.fx hM.kf hH 1 rfl (hLC.in (hLC.ch hg0 (by decide) gch_6_0) (by decide)) (⟨by decide, by decide⟩ : gAr 9617 1) rfl dX5_addBytes_34 ?_
          refine r_icmp_ge (tgt := 59) hM.fx hr_6 (gcR (k := 600) (by decide)) dX5_addBytes_35 (by decide) (fun h_7 => ?_) (fun h_7 => ?_)
          · have hf := gpos h_7 hf
            exact wX5_addBytes_59 hLC hM (fX5_addBytes_3 g fu) ih  _ _ _ _ _ hg0 hr1 hr2 hf _ _ _ hH (lv_sub hl [1, 2, 3] rfl)
          · have hf := gneg' h_7 hf
            refine lv_aload_n hM.fx.1 hM.fx.2.1 dX5_addBytes_38 rfl (lv_at hl 1 rfl) ?_
            refine r_getR hM.fx hM.kf hH hLC fl_X5_9 hg0 gch_6_0 dX5_addBytes_39 ?_
            refine lv_aload_n hM.fx.1 hM.fx.2.1 dX5_addBytes_42 rfl (lv_at hl 1 rfl) ?_
            refine r_getI hM.fx hM.kf hH fl_X5_26 (hLC.in hg0 (by decide)) dX5_addBytes_43 ?_
            have hr_8 := hH.2.2.i (hLC.in hg0 (by decide)).2.2 (by decide : glg 6 2 = false)
            refine lv_iload_n hM.fx.1 hM.fx.2.1 dX5_addBytes_46 rfl (lv_at hl 0 rfl) ?_
            refine r_i2b hM.fx dX5_addBytes_47 ?_
            obtain ⟨g_9, hf⟩ := gif hf
            refine r_bast hM.fx hM.kf hH (hLC.in (hLC.ch hg0 (by decide) gch_6_0) (by decide)) (⟨by decide, by decide⟩ : gAr 9617 1) hr_8 g_9  dX5_addBytes_48 (fun H locs hH => ?_)
            obtain ⟨M_10, eM_10, hf⟩ := gst_s hf
            rw [← eM_10] at hH
            refine lv_aload_n hM.fx.1 hM.fx.2.1 dX5_addBytes_49 rfl (lv_at hl 1 rfl) ?_
            refine lv_dup hM.fx.1 hM.fx.2.1 dX5_addBytes_50 rfl ?_
            refine r_getI hM.fx hM.kf hH fl_X5_26 (hLC.in hg0 (by decide)) dX5_addBytes_51 ?_
            have hr_11 := hH.2.2.i (hLC.in hg0 (by decide)).2.2 (by decide : glg 6 2 = false)
            refine lv_iconst (v := gi (1)) hM.fx.1 hM.fx.2.1 dX5_addBytes_54 rfl ?_
            refine r_iadd hM.fx dX5_addBytes_55 ?_
            refine r_putI hM.fx hM.kf hH fp_X5_26 (hLC.in hg0 (by decide)) (gwi_r _) dX5_addBytes_56 (fun H locs hH => ?_)
            obtain ⟨M_12, eM_12, hf⟩ := gst_s hf
            rw [← eM_12] at hH
            exact wX5_addBytes_59 hLC hM (fX5_addBytes_3 g fu) ih  _ _ _ _ _ hg0 hr1 hr2 hf _ _ _ hH (lv_sub hl [1, 2, 3] rfl)
def fX5_addBytes (g : Nat → Nat) (a0 : Nat) (x1 : Int) (M : gMem) : Option gMem :=
  fX5_addBytes_3 g gF a0 x1 24 M
set_option maxHeartbeats 4000000 in
set_option maxRecDepth 100000 in
theorem mX5_addBytes {w : gW} {n : Nat} {Rm : Nat → Nat → Nat} {g : Nat → Nat} (hLC : gLC g n Rm) {l : Launch} (hl9 : l.stackTraces = false) {a0 : Nat} {x1 : Int} {M : gMem} {r : gMem} (hg0 : g a0 = 6) (hr1 : gRI x1) (hf : fX5_addBytes g a0 x1 M = some r) : gMT w n Rm l yX5_addBytes cX5_addBytes 4 none 1 60 0 0 [.ref (w.1 + a0), .int (gi x1)] M (.inr none) r True := by
  unfold fX5_addBytes at hf
  refine gMT.of hl9 (by decide +kernel) ((Nat.le_of_ble_eq_true rfl)) ?_
  intro p e s m below meth c hM hH ls hl
  have hM : gMC w p l s m ([.ref (w.1 + a0), .int (gi x1)] : List Value).toArray meth c cX5_addBytes 4 RX5 none := hM
  have hl : lv_has ls 4 [(0, .ref (w.1 + a0)), (1, .int (gi x1))] := hl
  refine lv_bipush (v := gi (24)) hM.fx.1 hM.fx.2.1 dX5_addBytes_0 (by decide) ?_
  refine lv_istore_n (lv' := [(2, .int (gi 24)), (0, .ref (w.1 + a0)), (1, .int (gi x1))]) hM.fx.1 hM.fx.2.1 dX5_addBytes_2 rfl hl (by decide) rfl (fun ls hl => ?_)
  exact wX5_addBytes_3 hLC hM  gF _ _ _ _ _ hg0 hr1 (gcR (k := 24) (by decide)) hf _ _ _ hH (lv_sub hl [1, 2, 0] rfl)
def fX5_next_271 (g : Nat → Nat)  : Nat → Nat → Int → gMem → Option gMem
  | 0, _, _, _ => none
  | fu + 1, a0, x1, M => if x1 ≤ M a0 5 then (some M) else (if (0 : Int) ≤ M a0 5 ∧ (M a0 5 : Int) < 600 then if M (a0 + 1) (M a0 5).toNat < 48 then (some M) else (if (0 : Int) ≤ M a0 5 ∧ (M a0 5 : Int) < 600 then if 57 < M (a0 + 1) (M a0 5).toNat then (some M) else (if (0 : Int) ≤ M a0 5 ∧ (M a0 5 : Int) < 600 then gst (gup M a0 9 (gmin (gwi (gwi (gwi (M a0 9 * 10) + M (a0 + 1) (M a0 5).toNat) - 48)) 1000000)) fun M_15 => gst (gup M_15 a0 5 (gwi (M_15 a0 5 + 1))) fun M_17 => fX5_next_271 g fu a0 x1 M_17 else none) else none) else none)
set_option maxHeartbeats 4000000 in
set_option maxRecDepth 100000 in
theorem wX5_next_271 {w : gW} {n : Nat} {Rm : Nat → Nat → Nat} {g : Nat → Nat} (hLC : gLC g n Rm) {p : Program} {l : Launch} {e : Env} {s : State} {m : MethodId} {args : Array Value} {below : List Frame} {meth : Method} {c : Code} (hM : gMC w p l s m args meth c cX5_next 2 RX5 none)  : ∀ (fu : Nat), ∀ (a0 : Nat) (x1 : Int) (M : gMem) (r : gMem) (hg0 : g a0 = 6) (hr1 : gRI x1) (hf : fX5_next_271 g fu a0 x1 M = some r) (H : Heap) (locs : List Loc) (ls : Array Slot) (hH : gH w n Rm M s H locs) (hl : lv_has ls 2 [(0, .ref (w.1 + a0)), (1, .int (gi x1))]), W p l e { frames := 1, cells := 0, slots := 0, locals := 60 } s m args below meth c H locs 0 0 (gQ w n Rm below args s 0 0 (.inr none) r True) (F0 m 271 ls []) := by
  intro fu
  induction fu with
  | zero =>
    intro a0 x1 M r hg0 hr1 hf H locs ls hH hl
    exact absurd hf (by simp [fX5_next_271])
  | succ fu ih =>
    intro a0 x1 M r hg0 hr1 hf H locs ls hH hl
    unfold fX5_next_271 at hf
    refine lv_aload_n hM.fx.1 hM.fx.2.1 dX5_next_271 rfl (lv_at hl 0 rfl) ?_
    refine r_getI hM.fx hM.kf hH fl_X5_32 (hLC.in hg0 (by decide)) dX5_next_272 ?_
    have hr_1 := hH.2.2.i (hLC.in hg0 (by decide)).2.2 (by decide : glg 6 5 = false)
    refine lv_iload_n hM.fx.1 hM.fx.2.1 dX5_next_275 rfl (lv_at hl 1 rfl) ?_
    refine r_icmp_ge (tgt := 349) hM.fx hr_1 hr1 dX5_next_276 (by decide) (fun h_2 => ?_) (fun h_2 => ?_)
    · have hf := gpos h_2 hf
      obtain rfl := Option.some.inj hf
      exact r_vret hM hH trivial ⟨(Nat.le_of_ble_eq_true rfl), (Nat.le_of_ble_eq_true rfl)⟩ dX5_next_349
    · have hf := gneg' h_2 hf
      refine lv_aload_n hM.fx.1 hM.fx.2.1 dX5_next_279 rfl (lv_at hl 0 rfl) ?_
      refine r_getR hM.fx hM.kf hH hLC fl_X5_9 hg0 gch_6_0 dX5_next_280 ?_
      refine lv_aload_n hM.fx.1 hM.fx.2.1 dX5_next_283 rfl (lv_at hl 0 rfl) ?_
      refine r_getI hM.fx hM.kf hH fl_X5_32 (hLC.in hg0 (by decide)) dX5_next_284 ?_
      have hr_3 := hH.2.2.i (hLC.in hg0 (by decide)).2.2 (by decide : glg 6 5 = false)
      obtain ⟨g_4, hf⟩ := gif hf
      refine r_bald hM.fx hM.kf hH (hLC.in (hLC.ch hg0 (by decide) gch_6_0) (by decide)) (⟨by decide, by decide⟩ : gAr 9617 1) hr_3 g_4 dX5_next_287 ?_
      have hr_5 := hH.2.2.i (k := (M a0 5).toNat) (hLC.in (hLC.ch hg0 (by decide) gch_6_0) (by decide)).2.2 (glg_a (⟨by decide, by decide⟩ : gAr 9617 1))
      refine lv_bipush (v := gi (48)) hM.fx.1 hM.fx.2.1 dX5_next_288 (by decide) ?_
      refine r_icmp_lt (tgt := 349) hM.fx hr_5 (gcR (k := 48) (by decide)) dX5_next_290 (by decide) (fun h_6 => ?_) (fun h_6 => ?_)
      · have hf := gpos h_6 hf
        obtain rfl := Option.some.inj hf
        exact r_vret hM hH trivial ⟨(Nat.le_of_ble_eq_true rfl), (Nat.le_of_ble_eq_true rfl)⟩ dX5_next_349
      · have hf := gneg' h_6 hf
        refine lv_aload_n hM.fx.1 hM.fx.2.1 dX5_next_293 rfl (lv_at hl 0 rfl) ?_
        refine r_getR hM.fx hM.kf hH hLC fl_X5_9 hg0 gch_6_0 dX5_next_294 ?_
        refine lv_aload_n hM.fx.1 hM.fx.2.1 dX5_next_297 rfl (lv_at hl 0 rfl) ?_
        refine r_getI hM.fx hM.kf hH fl_X5_32 (hLC.in hg0 (by decide)) dX5_next_298 ?_
        have hr_7 := hH.2.2.i (hLC.in hg0 (by decide)).2.2 (by decide : glg 6 5 = false)
        obtain ⟨g_8, hf⟩ := gif hf
        refine r_bald hM.fx hM.kf hH (hLC.in (hLC.ch hg0 (by decide) gch_6_0) (by decide)) (⟨by decide, by decide⟩ : gAr 9617 1) hr_7 g_8 dX5_next_301 ?_
        have hr_9 := hH.2.2.i (k := (M a0 5).toNat) (hLC.in (hLC.ch hg0 (by decide) gch_6_0) (by decide)).2.2 (glg_a (⟨by decide, by decide⟩ : gAr 9617 1))
        refine lv_bipush (v := gi (57)) hM.fx.1 hM.fx.2.1 dX5_next_302 (by decide) ?_
        refine r_icmp_gt (tgt := 349) hM.fx hr_9 (gcR (k := 57) (by decide)) dX5_next_304 (by decide) (fun h_10 => ?_) (fun h_10 => ?_)
        · have hf := gpos h_10 hf
          obtain rfl := Option.some.inj hf
          exact r_vret hM hH trivial ⟨(Nat.le_of_ble_eq_true rfl), (Nat.le_of_ble_eq_true rfl)⟩ dX5_next_349
        · have hf := gneg' h_10 hf
          refine lv_aload_n hM.fx.1 hM.fx.2.1 dX5_next_307 rfl (lv_at hl 0 rfl) ?_
          refine lv_aload_n hM.fx.1 hM.fx.2.1 dX5_next_308 rfl (lv_at hl 0 rfl) ?_
          refine r_getI hM.fx hM.kf hH fl_X5_195 (hLC.in hg0 (by decide)) dX5_next_309 ?_
          have hr_11 := hH.2.2.i (hLC.in hg0 (by decide)).2.2 (by decide : glg 6 9 = false)
          refine lv_bipush (v := gi (10)) hM.fx.1 hM.fx.2.1 dX5_next_312 (by decide) ?_
          refine r_imul hM.fx dX5_next_314 ?_
          refine lv_aload_n hM.fx.1 hM.fx.2.1 dX5_next_315 rfl (lv_at hl 0 rfl) ?_
          refine r_getR hM.fx hM.kf hH hLC fl_X5_9 hg0 gch_6_0 dX5_next_316 ?_
          refine lv_aload_n hM.fx.1 hM.fx.2.1 dX5_next_319 rfl (lv_at hl 0 rfl) ?_
          refine r_getI hM.fx hM.kf hH fl_X5_32 (hLC.in hg0 (by decide)) dX5_next_320 ?_
          have hr_12 := hH.2.2.i (hLC.in hg0 (by decide)).2.2 (by decide : glg 6 5 = false)
          obtain ⟨g_13, hf⟩ := gif hf
          refine r_bald hM.fx hM.kf hH (hLC.in (hLC.ch hg0 (by decide) gch_6_0) (by decide)) (⟨by decide, by decide⟩ : gAr 9617 1) hr_12 g_13 dX5_next_323 ?_
          have hr_14 := hH.2.2.i (k := (M a0 5).toNat) (hLC.in (hLC.ch hg0 (by decide) gch_6_0) (by decide)).2.2 (glg_a (⟨by decide, by decide⟩ : gAr 9617 1))
          refine r_iadd hM.fx dX5_next_324 ?_
          refine lv_bipush (v := gi (48)) hM.fx.1 hM.fx.2.1 dX5_next_325 (by decide) ?_
          refine r_isub hM.fx dX5_next_327 ?_
          refine r_ldc (x := 1000000) hM.fx gw_443 (by decide) dX5_next_328 ?_
          refine r_mmin hM.fx hl.1 ⟨gw_444, gw_445, gw_105, gw_446⟩ ⟨(Nat.le_of_ble_eq_true rfl), (Nat.le_of_ble_eq_true rfl)⟩ ⟨(Nat.le_of_ble_eq_true rfl), (Nat.le_of_ble_eq_true rfl)⟩ (gwi_r _) (gcR (k := 1000000) (by decide)) dX5_next_330 ?_
          refine r_putI hM.fx hM.kf hH fp_X5_195 (hLC.in hg0 (by decide)) (gmin_r (gwi_r _) (gcR (k := 1000000) (by decide))) dX5_next_333 (fun H locs hH => ?_)
          obtain ⟨M_15, eM_15, hf⟩ := gst_s hf
          rw [← eM_15] at hH
          refine lv_aload_n hM.fx.1 hM.fx.2.1 dX5_next_336 rfl (lv_at hl 0 rfl) ?_
          refine lv_dup hM.fx.1 hM.fx.2.1 dX5_next_337 rfl ?_
          refine r_getI hM.fx hM.kf hH fl_X5_32 (hLC.in hg0 (by decide)) dX5_next_338 ?_
          have hr_16 := hH.2.2.i (hLC.in hg0 (by decide)).2.2 (by decide : glg 6 5 = false)
          refine lv_iconst (v := gi (1)) hM.fx.1 hM.fx.2.1 dX5_next_341 rfl ?_
          refine r_iadd hM.fx dX5_next_342 ?_
          refine r_putI hM.fx hM.kf hH fp_X5_32 (hLC.in hg0 (by decide)) (gwi_r _) dX5_next_343 (fun H locs hH => ?_)
          obtain ⟨M_17, eM_17, hf⟩ := gst_s hf
          rw [← eM_17] at hH
          refine lv_goto (tgt := 271) hM.fx.1 hM.fx.2.1 dX5_next_346 (by decide) ?_
          exact ih _ _ _ _ hg0 hr1 hf _ _ _ hH hl
def fX5_next_235 (g : Nat → Nat)  (a0 : Nat) (x1 : Int) (M : gMem) : Option gMem :=
  if M a0 7 < 48 then (some M) else (if 57 < M a0 7 then (some M) else (gst (gup M a0 9 (gwi (M a0 7 - 48))) fun M_6 => gst (gup M_6 a0 7 257) fun M_7 => fX5_next_271 g gF a0 x1 M_7))
set_option maxHeartbeats 4000000 in
set_option maxRecDepth 100000 in
theorem wX5_next_235 {w : gW} {n : Nat} {Rm : Nat → Nat → Nat} {g : Nat → Nat} (hLC : gLC g n Rm) {p : Program} {l : Launch} {e : Env} {s : State} {m : MethodId} {args : Array Value} {below : List Frame} {meth : Method} {c : Code} (hM : gMC w p l s m args meth c cX5_next 2 RX5 none)  : ∀ (a0 : Nat) (x1 : Int) (M : gMem) (r : gMem) (hg0 : g a0 = 6) (hr1 : gRI x1) (hf : fX5_next_235 g a0 x1 M = some r) (H : Heap) (locs : List Loc) (ls : Array Slot) (hH : gH w n Rm M s H locs) (hl : lv_has ls 2 [(0, .ref (w.1 + a0)), (1, .int (gi x1))]), W p l e { frames := 1, cells := 0, slots := 0, locals := 60 } s m args below meth c H locs 0 0 (gQ w n Rm below args s 0 0 (.inr none) r True) (F0 m 235 ls []) := by
  intro a0 x1 M r hg0 hr1 hf H locs ls hH hl
  unfold fX5_next_235 at hf
  refine lv_aload_n hM.fx.1 hM.fx.2.1 dX5_next_235 rfl (lv_at hl 0 rfl) ?_
  refine r_getI hM.fx hM.kf hH fl_X5_65 (hLC.in hg0 (by decide)) dX5_next_236 ?_
  have hr_1 := hH.2.2.i (hLC.in hg0 (by decide)).2.2 (by decide : glg 6 7 = false)
  refine lv_bipush (v := gi (48)) hM.fx.1 hM.fx.2.1 dX5_next_239 (by decide) ?_
  refine r_icmp_lt (tgt := 349) hM.fx hr_1 (gcR (k := 48) (by decide)) dX5_next_241 (by decide) (fun h_2 => ?_) (fun h_2 => ?_)
  · have hf := gpos h_2 hf
    obtain rfl := Option.some.inj hf
    exact r_vret hM hH trivial ⟨(Nat.le_of_ble_eq_true rfl), (Nat.le_of_ble_eq_true rfl)⟩ dX5_next_349
  · have hf := gneg' h_2 hf
    refine lv_aload_n hM.fx.1 hM.fx.2.1 dX5_next_244 rfl (lv_at hl 0 rfl) ?_
    refine r_getI hM.fx hM.kf hH fl_X5_65 (hLC.in hg0 (by decide)) dX5_next_245 ?_
    have hr_3 := hH.2.2.i (hLC.in hg0 (by decide)).2.2 (by decide : glg 6 7 = false)
    refine lv_bipush (v := gi (57)) hM.fx.1 hM.fx.2.1 dX5_next_248 (by decide) ?_
    refine r_icmp_gt (tgt := 349) hM.fx hr_3 (gcR (k := 57) (by decide)) dX5_next_250 (by decide) (fun h_4 => ?_) (fun h_4 => ?_)
    · have hf := gpos h_4 hf
      obtain rfl := Option.some.inj hf
      exact r_vret hM hH trivial ⟨(Nat.le_of_ble_eq_true rfl), (Nat.le_of_ble_eq_true rfl)⟩ dX5_next_349
    · have hf := gneg' h_4 hf
      refine lv_aload_n hM.fx.1 hM.fx.2.1 dX5_next_253 rfl (lv_at hl 0 rfl) ?_
      refine lv_aload_n hM.fx.1 hM.fx.2.1 dX5_next_254 rfl (lv_at hl 0 rfl) ?_
      refine r_getI hM.fx hM.kf hH fl_X5_65 (hLC.in hg0 (by decide)) dX5_next_255 ?_
      have hr_5 := hH.2.2.i (hLC.in hg0 (by decide)).2.2 (by decide : glg 6 7 = false)
      refine lv_bipush (v := gi (48)) hM.fx.1 hM.fx.2.1 dX5_next_258 (by decide) ?_
      refine r_isub hM.fx dX5_next_260 ?_
      refine r_putI hM.fx hM.kf hH fp_X5_195 (hLC.in hg0 (by decide)) (gwi_r _) dX5_next_261 (fun H locs hH => ?_)
      obtain ⟨M_6, eM_6, hf⟩ := gst_s hf
      rw [← eM_6] at hH
      refine lv_aload_n hM.fx.1 hM.fx.2.1 dX5_next_264 rfl (lv_at hl 0 rfl) ?_
      refine lv_sipush (v := gi (257)) hM.fx.1 hM.fx.2.1 dX5_next_265 (by decide) ?_
      refine r_putI hM.fx hM.kf hH fp_X5_65 (hLC.in hg0 (by decide)) (gcR (k := 257) (by decide)) dX5_next_268 (fun H locs hH => ?_)
      obtain ⟨M_7, eM_7, hf⟩ := gst_s hf
      rw [← eM_7] at hH
      exact wX5_next_271 hLC hM  gF _ _ _ _ hg0 hr1 hf _ _ _ hH hl
def fX5_next_213 (g : Nat → Nat)  (a0 : Nat) (M : gMem) : Option gMem :=
  if gwi (M a0 5 - M a0 6) ≤ 8 then (some M) else (gst (gup M a0 8 0) fun M_4 => some M_4)
set_option maxHeartbeats 4000000 in
set_option maxRecDepth 100000 in
theorem wX5_next_213 {w : gW} {n : Nat} {Rm : Nat → Nat → Nat} {g : Nat → Nat} (hLC : gLC g n Rm) {p : Program} {l : Launch} {e : Env} {s : State} {m : MethodId} {args : Array Value} {below : List Frame} {meth : Method} {c : Code} (hM : gMC w p l s m args meth c cX5_next 2 RX5 none)  : ∀ (a0 : Nat) (M : gMem) (r : gMem) (hg0 : g a0 = 6) (hf : fX5_next_213 g a0 M = some r) (H : Heap) (locs : List Loc) (ls : Array Slot) (hH : gH w n Rm M s H locs) (hl : lv_has ls 2 [(0, .ref (w.1 + a0))]), W p l e { frames := 1, cells := 0, slots := 0, locals := 60 } s m args below meth c H locs 0 0 (gQ w n Rm below args s 0 0 (.inr none) r True) (F0 m 213 ls []) := by
  intro a0 M r hg0 hf H locs ls hH hl
  unfold fX5_next_213 at hf
  refine lv_aload_n hM.fx.1 hM.fx.2.1 dX5_next_213 rfl (lv_at hl 0 rfl) ?_
  refine r_getI hM.fx hM.kf hH fl_X5_32 (hLC.in hg0 (by decide)) dX5_next_214 ?_
  have hr_1 := hH.2.2.i (hLC.in hg0 (by decide)).2.2 (by decide : glg 6 5 = false)
  refine lv_aload_n hM.fx.1 hM.fx.2.1 dX5_next_217 rfl (lv_at hl 0 rfl) ?_
  refine r_getI hM.fx hM.kf hH fl_X5_68 (hLC.in hg0 (by decide)) dX5_next_218 ?_
  have hr_2 := hH.2.2.i (hLC.in hg0 (by decide)).2.2 (by decide : glg 6 6 = false)
  refine r_isub hM.fx dX5_next_221 ?_
  refine lv_bipush (v := gi (8)) hM.fx.1 hM.fx.2.1 dX5_next_222 (by decide) ?_
  refine r_icmp_le (tgt := 349) hM.fx (gwi_r _) (gcR (k := 8) (by decide)) dX5_next_224 (by decide) (fun h_3 => ?_) (fun h_3 => ?_)
  · have hf := gpos h_3 hf
    obtain rfl := Option.some.inj hf
    exact r_vret hM hH trivial ⟨(Nat.le_of_ble_eq_true rfl), (Nat.le_of_ble_eq_true rfl)⟩ dX5_next_349
  · have hf := gneg' h_3 hf
    refine lv_aload_n hM.fx.1 hM.fx.2.1 dX5_next_227 rfl (lv_at hl 0 rfl) ?_
    refine lv_lconst (v := gj (0)) hM.fx.1 hM.fx.2.1 dX5_next_228 (by decide) ?_
    refine r_putL hM.fx hM.kf hH fp_X5_99 (hLC.in hg0 (by decide)) (gRI_L (gcR (k := 0) (by decide))) dX5_next_229 (fun H locs hH => ?_)
    obtain ⟨M_4, eM_4, hf⟩ := gst_s hf
    rw [← eM_4] at hH
    refine lv_goto (tgt := 349) hM.fx.1 hM.fx.2.1 dX5_next_232 (by decide) ?_
    obtain rfl := Option.some.inj hf
    exact r_vret hM hH trivial ⟨(Nat.le_of_ble_eq_true rfl), (Nat.le_of_ble_eq_true rfl)⟩ dX5_next_349
def fX5_next_142 (g : Nat → Nat)  : Nat → Nat → Int → gMem → Option gMem
  | 0, _, _, _ => none
  | fu + 1, a0, x1, M => if x1 ≤ M a0 5 then (fX5_next_213 g a0 M) else (if (0 : Int) ≤ M a0 5 ∧ (M a0 5 : Int) < 600 then if M (a0 + 1) (M a0 5).toNat < 97 then (fX5_next_213 g a0 M) else (if (0 : Int) ≤ M a0 5 ∧ (M a0 5 : Int) < 600 then if 122 < M (a0 + 1) (M a0 5).toNat then (fX5_next_213 g a0 M) else (if (0 : Int) ≤ M a0 5 ∧ (M a0 5 : Int) < 600 then gst (gup M a0 8 (glor (glshl (M a0 8) 8) (M (a0 + 1) (M a0 5).toNat))) fun M_15 => gst (gup M_15 a0 5 (gwi (M_15 a0 5 + 1))) fun M_17 => fX5_next_142 g fu a0 x1 M_17 else none) else none) else none)
set_option maxHeartbeats 4000000 in
set_option maxRecDepth 100000 in
theorem wX5_next_142 {w : gW} {n : Nat} {Rm : Nat → Nat → Nat} {g : Nat → Nat} (hLC : gLC g n Rm) {p : Program} {l : Launch} {e : Env} {s : State} {m : MethodId} {args : Array Value} {below : List Frame} {meth : Method} {c : Code} (hM : gMC w p l s m args meth c cX5_next 2 RX5 none)  : ∀ (fu : Nat), ∀ (a0 : Nat) (x1 : Int) (M : gMem) (r : gMem) (hg0 : g a0 = 6) (hr1 : gRI x1) (hf : fX5_next_142 g fu a0 x1 M = some r) (H : Heap) (locs : List Loc) (ls : Array Slot) (hH : gH w n Rm M s H locs) (hl : lv_has ls 2 [(0, .ref (w.1 + a0)), (1, .int (gi x1))]), W p l e { frames := 1, cells := 0, slots := 0, locals := 60 } s m args below meth c H locs 0 0 (gQ w n Rm below args s 0 0 (.inr none) r True) (F0 m 142 ls []) := by
  intro fu
  induction fu with
  | zero =>
    intro a0 x1 M r hg0 hr1 hf H locs ls hH hl
    exact absurd hf (by simp [fX5_next_142])
  | succ fu ih =>
    intro a0 x1 M r hg0 hr1 hf H locs ls hH hl
    unfold fX5_next_142 at hf
    refine lv_aload_n hM.fx.1 hM.fx.2.1 dX5_next_142 rfl (lv_at hl 0 rfl) ?_
    refine r_getI hM.fx hM.kf hH fl_X5_32 (hLC.in hg0 (by decide)) dX5_next_143 ?_
    have hr_1 := hH.2.2.i (hLC.in hg0 (by decide)).2.2 (by decide : glg 6 5 = false)
    refine lv_iload_n hM.fx.1 hM.fx.2.1 dX5_next_146 rfl (lv_at hl 1 rfl) ?_
    refine r_icmp_ge (tgt := 213) hM.fx hr_1 hr1 dX5_next_147 (by decide) (fun h_2 => ?_) (fun h_2 => ?_)
    · have hf := gpos h_2 hf
      exact wX5_next_213 hLC hM   _ _ _ hg0 hf _ _ _ hH (lv_sub hl [0] rfl)
    · have hf := gneg' h_2 hf
      refine lv_aload_n hM.fx.1 hM.fx.2.1 dX5_next_150 rfl (lv_at hl 0 rfl) ?_
      refine r_getR hM.fx hM.kf hH hLC fl_X5_9 hg0 gch_6_0 dX5_next_151 ?_
      refine lv_aload_n hM.fx.1 hM.fx.2.1 dX5_next_154 rfl (lv_at hl 0 rfl) ?_
      refine r_getI hM.fx hM.kf hH fl_X5_32 (hLC.in hg0 (by decide)) dX5_next_155 ?_
      have hr_3 := hH.2.2.i (hLC.in hg0 (by decide)).2.2 (by decide : glg 6 5 = false)
      obtain ⟨g_4, hf⟩ := gif hf
      refine r_bald hM.fx hM.kf hH (hLC.in (hLC.ch hg0 (by decide) gch_6_0) (by decide)) (⟨by decide, by decide⟩ : gAr 9617 1) hr_3 g_4 dX5_next_158 ?_
      have hr_5 := hH.2.2.i (k := (M a0 5).toNat) (hLC.in (hLC.ch hg0 (by decide) gch_6_0) (by decide)).2.2 (glg_a (⟨by decide, by decide⟩ : gAr 9617 1))
      refine lv_bipush (v := gi (97)) hM.fx.1 hM.fx.2.1 dX5_next_159 (by decide) ?_
      refine r_icmp_lt (tgt := 213) hM.fx hr_5 (gcR (k := 97) (by decide)) dX5_next_161 (by decide) (fun h_6 => ?_) (fun h_6 => ?_)
      · have hf := gpos h_6 hf
        exact wX5_next_213 hLC hM   _ _ _ hg0 hf _ _ _ hH (lv_sub hl [0] rfl)
      · have hf := gneg' h_6 hf
        refine lv_aload_n hM.fx.1 hM.fx.2.1 dX5_next_164 rfl (lv_at hl 0 rfl) ?_
        refine r_getR hM.fx hM.kf hH hLC fl_X5_9 hg0 gch_6_0 dX5_next_165 ?_
        refine lv_aload_n hM.fx.1 hM.fx.2.1 dX5_next_168 rfl (lv_at hl 0 rfl) ?_
        refine r_getI hM.fx hM.kf hH fl_X5_32 (hLC.in hg0 (by decide)) dX5_next_169 ?_
        have hr_7 := hH.2.2.i (hLC.in hg0 (by decide)).2.2 (by decide : glg 6 5 = false)
        obtain ⟨g_8, hf⟩ := gif hf
        refine r_bald hM.fx hM.kf hH (hLC.in (hLC.ch hg0 (by decide) gch_6_0) (by decide)) (⟨by decide, by decide⟩ : gAr 9617 1) hr_7 g_8 dX5_next_172 ?_
        have hr_9 := hH.2.2.i (k := (M a0 5).toNat) (hLC.in (hLC.ch hg0 (by decide) gch_6_0) (by decide)).2.2 (glg_a (⟨by decide, by decide⟩ : gAr 9617 1))
        refine lv_bipush (v := gi (122)) hM.fx.1 hM.fx.2.1 dX5_next_173 (by decide) ?_
        refine r_icmp_gt (tgt := 213) hM.fx hr_9 (gcR (k := 122) (by decide)) dX5_next_175 (by decide) (fun h_10 => ?_) (fun h_10 => ?_)
        · have hf := gpos h_10 hf
          exact wX5_next_213 hLC hM   _ _ _ hg0 hf _ _ _ hH (lv_sub hl [0] rfl)
        · have hf := gneg' h_10 hf
          refine lv_aload_n hM.fx.1 hM.fx.2.1 dX5_next_178 rfl (lv_at hl 0 rfl) ?_
          refine lv_aload_n hM.fx.1 hM.fx.2.1 dX5_next_179 rfl (lv_at hl 0 rfl) ?_
          refine r_getL hM.fx hM.kf hH fl_X5_99 (hLC.in hg0 (by decide)) dX5_next_180 ?_
          have hr_11 := hH.2.2.l (hLC.in hg0 (by decide)).2.2 (by decide : glg 6 8 = true)
          refine lv_bipush (v := gi (8)) hM.fx.1 hM.fx.2.1 dX5_next_183 (by decide) ?_
          refine r_lshl hM.fx dX5_next_185 ?_
          refine lv_aload_n hM.fx.1 hM.fx.2.1 dX5_next_186 rfl (lv_at hl 0 rfl) ?_
          refine r_getR hM.fx hM.kf hH hLC fl_X5_9 hg0 gch_6_0 dX5_next_187 ?_
          refine lv_aload_n hM.fx.1 hM.fx.2.1 dX5_next_190 rfl (lv_at hl 0 rfl) ?_
          refine r_getI hM.fx hM.kf hH fl_X5_32 (hLC.in hg0 (by decide)) dX5_next_191 ?_
          have hr_12 := hH.2.2.i (hLC.in hg0 (by decide)).2.2 (by decide : glg 6 5 = false)
          obtain ⟨g_13, hf⟩ := gif hf
          refine r_bald hM.fx hM.kf hH (hLC.in (hLC.ch hg0 (by decide) gch_6_0) (by decide)) (⟨by decide, by decide⟩ : gAr 9617 1) hr_12 g_13 dX5_next_194 ?_
          have hr_14 := hH.2.2.i (k := (M a0 5).toNat) (hLC.in (hLC.ch hg0 (by decide) gch_6_0) (by decide)).2.2 (glg_a (⟨by decide, by decide⟩ : gAr 9617 1))
          refine r_i2l hM.fx hr_14 dX5_next_195 ?_
          refine r_lor hM.fx dX5_next_196 ?_
          refine r_putL hM.fx hM.kf hH fp_X5_99 (hLC.in hg0 (by decide)) (gj_r _) dX5_next_197 (fun H locs hH => ?_)
          obtain ⟨M_15, eM_15, hf⟩ := gst_s hf
          rw [← eM_15] at hH
          refine lv_aload_n hM.fx.1 hM.fx.2.1 dX5_next_200 rfl (lv_at hl 0 rfl) ?_
          refine lv_dup hM.fx.1 hM.fx.2.1 dX5_next_201 rfl ?_
          refine r_getI hM.fx hM.kf hH fl_X5_32 (hLC.in hg0 (by decide)) dX5_next_202 ?_
          have hr_16 := hH.2.2.i (hLC.in hg0 (by decide)).2.2 (by decide : glg 6 5 = false)
          refine lv_iconst (v := gi (1)) hM.fx.1 hM.fx.2.1 dX5_next_205 rfl ?_
          refine r_iadd hM.fx dX5_next_206 ?_
          refine r_putI hM.fx hM.kf hH fp_X5_32 (hLC.in hg0 (by decide)) (gwi_r _) dX5_next_207 (fun H locs hH => ?_)
          obtain ⟨M_17, eM_17, hf⟩ := gst_s hf
          rw [← eM_17] at hH
          refine lv_goto (tgt := 142) hM.fx.1 hM.fx.2.1 dX5_next_210 (by decide) ?_
          exact ih _ _ _ _ hg0 hr1 hf _ _ _ hH hl
def fX5_next_108 (g : Nat → Nat)  (a0 : Nat) (x1 : Int) (M : gMem) : Option gMem :=
  if M a0 7 < 97 then (fX5_next_235 g a0 x1 M) else (if 122 < M a0 7 then (fX5_next_235 g a0 x1 M) else (gst (gup M a0 8 (M a0 7)) fun M_6 => gst (gup M_6 a0 7 256) fun M_7 => fX5_next_142 g gF a0 x1 M_7))
set_option maxHeartbeats 4000000 in
set_option maxRecDepth 100000 in
theorem wX5_next_108 {w : gW} {n : Nat} {Rm : Nat → Nat → Nat} {g : Nat → Nat} (hLC : gLC g n Rm) {p : Program} {l : Launch} {e : Env} {s : State} {m : MethodId} {args : Array Value} {below : List Frame} {meth : Method} {c : Code} (hM : gMC w p l s m args meth c cX5_next 2 RX5 none)  : ∀ (a0 : Nat) (x1 : Int) (M : gMem) (r : gMem) (hg0 : g a0 = 6) (hr1 : gRI x1) (hf : fX5_next_108 g a0 x1 M = some r) (H : Heap) (locs : List Loc) (ls : Array Slot) (hH : gH w n Rm M s H locs) (hl : lv_has ls 2 [(0, .ref (w.1 + a0)), (1, .int (gi x1))]), W p l e { frames := 1, cells := 0, slots := 0, locals := 60 } s m args below meth c H locs 0 0 (gQ w n Rm below args s 0 0 (.inr none) r True) (F0 m 108 ls []) := by
  intro a0 x1 M r hg0 hr1 hf H locs ls hH hl
  unfold fX5_next_108 at hf
  refine lv_aload_n hM.fx.1 hM.fx.2.1 dX5_next_108 rfl (lv_at hl 0 rfl) ?_
  refine r_getI hM.fx hM.kf hH fl_X5_65 (hLC.in hg0 (by decide)) dX5_next_109 ?_
  have hr_1 := hH.2.2.i (hLC.in hg0 (by decide)).2.2 (by decide : glg 6 7 = false)
  refine lv_bipush (v := gi (97)) hM.fx.1 hM.fx.2.1 dX5_next_112 (by decide) ?_
  refine r_icmp_lt (tgt := 235) hM.fx hr_1 (gcR (k := 97) (by decide)) dX5_next_114 (by decide) (fun h_2 => ?_) (fun h_2 => ?_)
  · have hf := gpos h_2 hf
    exact wX5_next_235 hLC hM   _ _ _ _ hg0 hr1 hf _ _ _ hH hl
  · have hf := gneg' h_2 hf
    refine lv_aload_n hM.fx.1 hM.fx.2.1 dX5_next_117 rfl (lv_at hl 0 rfl) ?_
    refine r_getI hM.fx hM.kf hH fl_X5_65 (hLC.in hg0 (by decide)) dX5_next_118 ?_
    have hr_3 := hH.2.2.i (hLC.in hg0 (by decide)).2.2 (by decide : glg 6 7 = false)
    refine lv_bipush (v := gi (122)) hM.fx.1 hM.fx.2.1 dX5_next_121 (by decide) ?_
    refine r_icmp_gt (tgt := 235) hM.fx hr_3 (gcR (k := 122) (by decide)) dX5_next_123 (by decide) (fun h_4 => ?_) (fun h_4 => ?_)
    · have hf := gpos h_4 hf
      exact wX5_next_235 hLC hM   _ _ _ _ hg0 hr1 hf _ _ _ hH hl
    · have hf := gneg' h_4 hf
      refine lv_aload_n hM.fx.1 hM.fx.2.1 dX5_next_126 rfl (lv_at hl 0 rfl) ?_
      refine lv_aload_n hM.fx.1 hM.fx.2.1 dX5_next_127 rfl (lv_at hl 0 rfl) ?_
      refine r_getI hM.fx hM.kf hH fl_X5_65 (hLC.in hg0 (by decide)) dX5_next_128 ?_
      have hr_5 := hH.2.2.i (hLC.in hg0 (by decide)).2.2 (by decide : glg 6 7 = false)
      refine r_i2l hM.fx hr_5 dX5_next_131 ?_
      refine r_putL hM.fx hM.kf hH fp_X5_99 (hLC.in hg0 (by decide)) (gRI_L hr_5) dX5_next_132 (fun H locs hH => ?_)
      obtain ⟨M_6, eM_6, hf⟩ := gst_s hf
      rw [← eM_6] at hH
      refine lv_aload_n hM.fx.1 hM.fx.2.1 dX5_next_135 rfl (lv_at hl 0 rfl) ?_
      refine lv_sipush (v := gi (256)) hM.fx.1 hM.fx.2.1 dX5_next_136 (by decide) ?_
      refine r_putI hM.fx hM.kf hH fp_X5_65 (hLC.in hg0 (by decide)) (gcR (k := 256) (by decide)) dX5_next_139 (fun H locs hH => ?_)
      obtain ⟨M_7, eM_7, hf⟩ := gst_s hf
      rw [← eM_7] at hH
      exact wX5_next_142 hLC hM  gF _ _ _ _ hg0 hr1 hf _ _ _ hH hl
def fX5_next_60 (g : Nat → Nat)  (a0 : Nat) (x1 : Int) (M : gMem) : Option gMem :=
  gst (gup M a0 6 (M a0 5)) fun M_2 => gst (gup M_2 a0 7 ((-1))) fun M_3 => if x1 ≤ M_3 a0 5 then (fX5_next_108 g a0 x1 M_3) else (if (0 : Int) ≤ M_3 a0 5 ∧ (M_3 a0 5 : Int) < 600 then gst (gup M_3 a0 7 (gand (M_3 (a0 + 1) (M_3 a0 5).toNat) 255)) fun M_9 => gst (gup M_9 a0 5 (gwi (M_9 a0 5 + 1))) fun M_11 => fX5_next_108 g a0 x1 M_11 else none)
set_option maxHeartbeats 4000000 in
set_option maxRecDepth 100000 in
theorem wX5_next_60 {w : gW} {n : Nat} {Rm : Nat → Nat → Nat} {g : Nat → Nat} (hLC : gLC g n Rm) {p : Program} {l : Launch} {e : Env} {s : State} {m : MethodId} {args : Array Value} {below : List Frame} {meth : Method} {c : Code} (hM : gMC w p l s m args meth c cX5_next 2 RX5 none)  : ∀ (a0 : Nat) (x1 : Int) (M : gMem) (r : gMem) (hg0 : g a0 = 6) (hr1 : gRI x1) (hf : fX5_next_60 g a0 x1 M = some r) (H : Heap) (locs : List Loc) (ls : Array Slot) (hH : gH w n Rm M s H locs) (hl : lv_has ls 2 [(0, .ref (w.1 + a0)), (1, .int (gi x1))]), W p l e { frames := 1, cells := 0, slots := 0, locals := 60 } s m args below meth c H locs 0 0 (gQ w n Rm below args s 0 0 (.inr none) r True) (F0 m 60 ls []) := by
  intro a0 x1 M r hg0 hr1 hf H locs ls hH hl
  unfold fX5_next_60 at hf
  refine lv_aload_n hM.fx.1 hM.fx.2.1 dX5_next_60 rfl (lv_at hl 0 rfl) ?_
  refine lv_aload_n hM.fx.1 hM.fx.2.1 dX5_next_61 rfl (lv_at hl 0 rfl) ?_
  refine r_getI hM.fx hM.kf hH fl_X5_32 (hLC.in hg0 (by decide)) dX5_next_62 ?_
  have hr_1 := hH.2.2.i (hLC.in hg0 (by decide)).2.2 (by decide : glg 6 5 = false)
  refine r_putI hM.fx hM.kf hH fp_X5_68 (hLC.in hg0 (by decide)) hr_1 dX5_next_65 (fun H locs hH => ?_)
  obtain ⟨M_2, eM_2, hf⟩ := gst_s hf
  rw [← eM_2] at hH
  refine lv_aload_n hM.fx.1 hM.fx.2.1 dX5_next_68 rfl (lv_at hl 0 rfl) ?_
  refine lv_iconst (v := gi (-1)) hM.fx.1 hM.fx.2.1 dX5_next_69 rfl ?_
  refine r_putI hM.fx hM.kf hH fp_X5_65 (hLC.in hg0 (by decide)) (gcR (k := -1) (by decide)) dX5_next_70 (fun H locs hH => ?_)
  obtain ⟨M_3, eM_3, hf⟩ := gst_s hf
  rw [← eM_3] at hH
  refine lv_aload_n hM.fx.1 hM.fx.2.1 dX5_next_73 rfl (lv_at hl 0 rfl) ?_
  refine r_getI hM.fx hM.kf hH fl_X5_32 (hLC.in hg0 (by decide)) dX5_next_74 ?_
  have hr_4 := hH.2.2.i (hLC.in hg0 (by decide)).2.2 (by decide : glg 6 5 = false)
  refine lv_iload_n hM.fx.1 hM.fx.2.1 dX5_next_77 rfl (lv_at hl 1 rfl) ?_
  refine r_icmp_ge (tgt := 108) hM.fx hr_4 hr1 dX5_next_78 (by decide) (fun h_5 => ?_) (fun h_5 => ?_)
  · have hf := gpos h_5 hf
    exact wX5_next_108 hLC hM   _ _ _ _ hg0 hr1 hf _ _ _ hH hl
  · have hf := gneg' h_5 hf
    refine lv_aload_n hM.fx.1 hM.fx.2.1 dX5_next_81 rfl (lv_at hl 0 rfl) ?_
    refine lv_aload_n hM.fx.1 hM.fx.2.1 dX5_next_82 rfl (lv_at hl 0 rfl) ?_
    refine r_getR hM.fx hM.kf hH hLC fl_X5_9 hg0 gch_6_0 dX5_next_83 ?_
    refine lv_aload_n hM.fx.1 hM.fx.2.1 dX5_next_86 rfl (lv_at hl 0 rfl) ?_
    refine r_getI hM.fx hM.kf hH fl_X5_32 (hLC.in hg0 (by decide)) dX5_next_87 ?_
    have hr_6 := hH.2.2.i (hLC.in hg0 (by decide)).2.2 (by decide : glg 6 5 = false)
    obtain ⟨g_7, hf⟩ := gif hf
    refine r_bald hM.fx hM.kf hH (hLC.in (hLC.ch hg0 (by decide) gch_6_0) (by decide)) (⟨by decide, by decide⟩ : gAr 9617 1) hr_6 g_7 dX5_next_90 ?_
    have hr_8 := hH.2.2.i (k := (M_3 a0 5).toNat) (hLC.in (hLC.ch hg0 (by decide) gch_6_0) (by decide)).2.2 (glg_a (⟨by decide, by decide⟩ : gAr 9617 1))
    refine lv_sipush (v := gi (255)) hM.fx.1 hM.fx.2.1 dX5_next_91 (by decide) ?_
    refine r_iand hM.fx dX5_next_94 ?_
    refine r_putI hM.fx hM.kf hH fp_X5_65 (hLC.in hg0 (by decide)) (gi_r _) dX5_next_95 (fun H locs hH => ?_)
    obtain ⟨M_9, eM_9, hf⟩ := gst_s hf
    rw [← eM_9] at hH
    refine lv_aload_n hM.fx.1 hM.fx.2.1 dX5_next_98 rfl (lv_at hl 0 rfl) ?_
    refine lv_dup hM.fx.1 hM.fx.2.1 dX5_next_99 rfl ?_
    refine r_getI hM.fx hM.kf hH fl_X5_32 (hLC.in hg0 (by decide)) dX5_next_100 ?_
    have hr_10 := hH.2.2.i (hLC.in hg0 (by decide)).2.2 (by decide : glg 6 5 = false)
    refine lv_iconst (v := gi (1)) hM.fx.1 hM.fx.2.1 dX5_next_103 rfl ?_
    refine r_iadd hM.fx dX5_next_104 ?_
    refine r_putI hM.fx hM.kf hH fp_X5_32 (hLC.in hg0 (by decide)) (gwi_r _) dX5_next_105 (fun H locs hH => ?_)
    obtain ⟨M_11, eM_11, hf⟩ := gst_s hf
    rw [← eM_11] at hH
    exact wX5_next_108 hLC hM   _ _ _ _ hg0 hr1 hf _ _ _ hH hl
def fX5_next_25 (g : Nat → Nat)  : Nat → Nat → Int → gMem → Option gMem
  | 0, _, _, _ => none
  | fu + 1, a0, x1, M => if x1 ≤ M a0 5 then (fX5_next_60 g a0 x1 M) else (if (0 : Int) ≤ M a0 5 ∧ (M a0 5 : Int) < 600 then if M (a0 + 1) (M a0 5).toNat = 32 then (gst (gup M a0 5 (gwi (M a0 5 + 1))) fun M_8 => fX5_next_25 g fu a0 x1 M_8) else (fX5_next_60 g a0 x1 M) else none)
set_option maxHeartbeats 4000000 in
set_option maxRecDepth 100000 in
theorem wX5_next_25 {w : gW} {n : Nat} {Rm : Nat → Nat → Nat} {g : Nat → Nat} (hLC : gLC g n Rm) {p : Program} {l : Launch} {e : Env} {s : State} {m : MethodId} {args : Array Value} {below : List Frame} {meth : Method} {c : Code} (hM : gMC w p l s m args meth c cX5_next 2 RX5 none)  : ∀ (fu : Nat), ∀ (a0 : Nat) (x1 : Int) (M : gMem) (r : gMem) (hg0 : g a0 = 6) (hr1 : gRI x1) (hf : fX5_next_25 g fu a0 x1 M = some r) (H : Heap) (locs : List Loc) (ls : Array Slot) (hH : gH w n Rm M s H locs) (hl : lv_has ls 2 [(0, .ref (w.1 + a0)), (1, .int (gi x1))]), W p l e { frames := 1, cells := 0, slots := 0, locals := 60 } s m args below meth c H locs 0 0 (gQ w n Rm below args s 0 0 (.inr none) r True) (F0 m 25 ls []) := by
  intro fu
  induction fu with
  | zero =>
    intro a0 x1 M r hg0 hr1 hf H locs ls hH hl
    exact absurd hf (by simp [fX5_next_25])
  | succ fu ih =>
    intro a0 x1 M r hg0 hr1 hf H locs ls hH hl
    unfold fX5_next_25 at hf
    refine lv_aload_n hM.fx.1 hM.fx.2.1 dX5_next_25 rfl (lv_at hl 0 rfl) ?_
    refine r_getI hM.fx hM.kf hH fl_X5_32 (hLC.in hg0 (by decide)) dX5_next_26 ?_
    have hr_1 := hH.2.2.i (hLC.in hg0 (by decide)).2.2 (by decide : glg 6 5 = false)
    refine lv_iload_n hM.fx.1 hM.fx.2.1 dX5_next_29 rfl (lv_at hl 1 rfl) ?_
    refine r_icmp_ge (tgt := 60) hM.fx hr_1 hr1 dX5_next_30 (by decide) (fun h_2 => ?_) (fun h_2 => ?_)
    · have hf := gpos h_2 hf
      exact wX5_next_60 hLC hM   _ _ _ _ hg0 hr1 hf _ _ _ hH hl
    · have hf := gneg' h_2 hf
      refine lv_aload_n hM.fx.1 hM.fx.2.1 dX5_next_33 rfl (lv_at hl 0 rfl) ?_
      refine r_getR hM.fx hM.kf hH hLC fl_X5_9 hg0 gch_6_0 dX5_next_34 ?_
      refine lv_aload_n hM.fx.1 hM.fx.2.1 dX5_next_37 rfl (lv_at hl 0 rfl) ?_
      refine r_getI hM.fx hM.kf hH fl_X5_32 (hLC.in hg0 (by decide)) dX5_next_38 ?_
      have hr_3 := hH.2.2.i (hLC.in hg0 (by decide)).2.2 (by decide : glg 6 5 = false)
      obtain ⟨g_4, hf⟩ := gif hf
      refine r_bald hM.fx hM.kf hH (hLC.in (hLC.ch hg0 (by decide) gch_6_0) (by decide)) (⟨by decide, by decide⟩ : gAr 9617 1) hr_3 g_4 dX5_next_41 ?_
      have hr_5 := hH.2.2.i (k := (M a0 5).toNat) (hLC.in (hLC.ch hg0 (by decide) gch_6_0) (by decide)).2.2 (glg_a (⟨by decide, by decide⟩ : gAr 9617 1))
      refine lv_bipush (v := gi (32)) hM.fx.1 hM.fx.2.1 dX5_next_42 (by decide) ?_
      refine r_icmp_ne (tgt := 60) hM.fx hr_5 (gcR (k := 32) (by decide)) dX5_next_44 (by decide) (fun h_6 => ?_) (fun h_6 => ?_)
      · have hf := gneg' h_6 hf
        exact wX5_next_60 hLC hM   _ _ _ _ hg0 hr1 hf _ _ _ hH hl
      · have hf := gpos h_6 hf
        refine lv_aload_n hM.fx.1 hM.fx.2.1 dX5_next_47 rfl (lv_at hl 0 rfl) ?_
        refine lv_dup hM.fx.1 hM.fx.2.1 dX5_next_48 rfl ?_
        refine r_getI hM.fx hM.kf hH fl_X5_32 (hLC.in hg0 (by decide)) dX5_next_49 ?_
        have hr_7 := hH.2.2.i (hLC.in hg0 (by decide)).2.2 (by decide : glg 6 5 = false)
        refine lv_iconst (v := gi (1)) hM.fx.1 hM.fx.2.1 dX5_next_52 rfl ?_
        refine r_iadd hM.fx dX5_next_53 ?_
        refine r_putI hM.fx hM.kf hH fp_X5_32 (hLC.in hg0 (by decide)) (gwi_r _) dX5_next_54 (fun H locs hH => ?_)
        obtain ⟨M_8, eM_8, hf⟩ := gst_s hf
        rw [← eM_8] at hH
        refine lv_goto (tgt := 25) hM.fx.1 hM.fx.2.1 dX5_next_57 (by decide) ?_
        exact ih _ _ _ _ hg0 hr1 hf _ _ _ hH hl
def fX5_next_24 (g : Nat → Nat)  (a0 : Nat) (xs0 : Int) (M : gMem) : Option gMem :=
  fX5_next_25 g gF a0 xs0 M
set_option maxHeartbeats 4000000 in
set_option maxRecDepth 100000 in
theorem wX5_next_24 {w : gW} {n : Nat} {Rm : Nat → Nat → Nat} {g : Nat → Nat} (hLC : gLC g n Rm) {p : Program} {l : Launch} {e : Env} {s : State} {m : MethodId} {args : Array Value} {below : List Frame} {meth : Method} {c : Code} (hM : gMC w p l s m args meth c cX5_next 2 RX5 none)  : ∀ (a0 : Nat) (xs0 : Int) (M : gMem) (r : gMem) (hg0 : g a0 = 6) (hrs0 : gRI xs0) (hf : fX5_next_24 g a0 xs0 M = some r) (H : Heap) (locs : List Loc) (ls : Array Slot) (hH : gH w n Rm M s H locs) (hl : lv_has ls 2 [(0, .ref (w.1 + a0))]), W p l e { frames := 1, cells := 0, slots := 0, locals := 60 } s m args below meth c H locs 0 0 (gQ w n Rm below args s 0 0 (.inr none) r True) (F0 m 24 ls [.int (gi xs0)]) := by
  intro a0 xs0 M r hg0 hrs0 hf H locs ls hH hl
  unfold fX5_next_24 at hf
  refine lv_istore_n (lv' := [(1, .int (gi xs0)), (0, .ref (w.1 + a0))]) hM.fx.1 hM.fx.2.1 dX5_next_24 rfl hl (by decide) rfl (fun ls hl => ?_)
  exact wX5_next_25 hLC hM  gF _ _ _ _ hg0 hrs0 hf _ _ _ hH (lv_sub hl [1, 0] rfl)
def fX5_next (g : Nat → Nat) (a0 : Nat) (M : gMem) : Option gMem :=
  if 600 ≤ M a0 2 then (fX5_next_24 g a0 600 M) else (fX5_next_24 g a0 (M a0 2) M)
set_option maxHeartbeats 4000000 in
set_option maxRecDepth 100000 in
theorem mX5_next {w : gW} {n : Nat} {Rm : Nat → Nat → Nat} {g : Nat → Nat} (hLC : gLC g n Rm) {l : Launch} (hl9 : l.stackTraces = false) {a0 : Nat} {M : gMem} {r : gMem} (hg0 : g a0 = 6) (hf : fX5_next g a0 M = some r) : gMT w n Rm l yX5_next cX5_next 2 none 1 60 0 0 [.ref (w.1 + a0)] M (.inr none) r True := by
  unfold fX5_next at hf
  refine gMT.of hl9 (by decide +kernel) ((Nat.le_of_ble_eq_true rfl)) ?_
  intro p e s m below meth c hM hH ls hl
  have hM : gMC w p l s m ([.ref (w.1 + a0)] : List Value).toArray meth c cX5_next 2 RX5 none := hM
  have hl : lv_has ls 2 [(0, .ref (w.1 + a0))] := hl
  refine lv_aload_n hM.fx.1 hM.fx.2.1 dX5_next_0 rfl (lv_at hl 0 rfl) ?_
  refine r_getI hM.fx hM.kf hH fl_X5_26 (hLC.in hg0 (by decide)) dX5_next_1 ?_
  have hr_1 := hH.2.2.i (hLC.in hg0 (by decide)).2.2 (by decide : glg 6 2 = false)
  refine lv_aload_n hM.fx.1 hM.fx.2.1 dX5_next_4 rfl (lv_at hl 0 rfl) ?_
  refine r_getR hM.fx hM.kf hH hLC fl_X5_9 hg0 gch_6_0 dX5_next_5 ?_
  refine r_alen hM.fx hM.kf hH 1 rfl (hLC.in (hLC.ch hg0 (by decide) gch_6_0) (by decide)) (⟨by decide, by decide⟩ : gAr 9617 1) rfl dX5_next_8 ?_
  refine r_icmp_ge (tgt := 19) hM.fx hr_1 (gcR (k := 600) (by decide)) dX5_next_9 (by decide) (fun h_2 => ?_) (fun h_2 => ?_)
  · have hf := gpos h_2 hf
    refine lv_aload_n hM.fx.1 hM.fx.2.1 dX5_next_19 rfl (lv_at hl 0 rfl) ?_
    refine r_getR hM.fx hM.kf hH hLC fl_X5_9 hg0 gch_6_0 dX5_next_20 ?_
    refine r_alen hM.fx hM.kf hH 1 rfl (hLC.in (hLC.ch hg0 (by decide) gch_6_0) (by decide)) (⟨by decide, by decide⟩ : gAr 9617 1) rfl dX5_next_23 ?_
    exact wX5_next_24 hLC hM   _ _ _ _ hg0 (gcR (k := 600) (by decide)) hf _ _ _ hH hl
  · have hf := gneg' h_2 hf
    refine lv_aload_n hM.fx.1 hM.fx.2.1 dX5_next_12 rfl (lv_at hl 0 rfl) ?_
    refine r_getI hM.fx hM.kf hH fl_X5_26 (hLC.in hg0 (by decide)) dX5_next_13 ?_
    have hr_3 := hH.2.2.i (hLC.in hg0 (by decide)).2.2 (by decide : glg 6 2 = false)
    refine lv_goto (tgt := 24) hM.fx.1 hM.fx.2.1 dX5_next_16 (by decide) ?_
    exact wX5_next_24 hLC hM   _ _ _ _ hg0 hr_3 hf _ _ _ hH hl
def fX5_lettersOf_4 (g : Nat → Nat)  : Nat → Nat → Int → Int → Option Int
  | 0, _, _, _ => none
  | fu + 1, t0, x1, x3 => if ((gtx t0).length : Int) ≤ x3 then (some x1) else (if (0 : Int) ≤ x3 ∧ (x3 : Int) < ((gtx t0).length : Int) then gst (glor (glshl x1 8) ((gtx t0).getD x3.toNat 0)) fun x_3 => gst (gwi (x3 + 1)) fun x_4 => fX5_lettersOf_4 g fu t0 x_3 x_4 else none)
set_option maxHeartbeats 4000000 in
set_option maxRecDepth 100000 in
theorem wX5_lettersOf_4 {w : gW} {n : Nat} {Rm : Nat → Nat → Nat} {g : Nat → Nat} (hLC : gLC g n Rm) {p : Program} {l : Launch} {e : Env} {s : State} {m : MethodId} {args : Array Value} {below : List Frame} {meth : Method} {c : Code} (hM : gMC w p l s m args meth c cX5_lettersOf 4 RX5 (some .long))  : ∀ (fu : Nat), ∀ (t0 : Nat) (x1 : Int) (x3 : Int) (M : gMem) (r : Int) (hs0 : gtx t0 ≠ []) (hr1 : gRL x1) (hr3 : gRI x3) (hf : fX5_lettersOf_4 g fu t0 x1 x3 = some r) (H : Heap) (locs : List Loc) (ls : Array Slot) (hH : gH w n Rm M s H locs) (hl : lv_has ls 4 [(0, gsR w t0), (1, .long (gj x1)), (3, .int (gi x3))]), W p l e { frames := 8, cells := 0, slots := 0, locals := 250 } s m args below meth c H locs 0 0 (gQ w n Rm below args s 0 0 (.inr (some (.long (gj r)))) M (gRL r)) (F0 m 4 ls []) := by
  intro fu
  induction fu with
  | zero =>
    intro t0 x1 x3 M r hs0 hr1 hr3 hf H locs ls hH hl
    exact absurd hf (by simp [fX5_lettersOf_4])
  | succ fu ih =>
    intro t0 x1 x3 M r hs0 hr1 hr3 hf H locs ls hH hl
    unfold fX5_lettersOf_4 at hf
    refine lv_iload_n hM.fx.1 hM.fx.2.1 dX5_lettersOf_4 rfl (lv_at hl 2 rfl) ?_
    refine lv_aload_n hM.fx.1 hM.fx.2.1 dX5_lettersOf_5 rfl (lv_at hl 0 rfl) ?_
    refine r_slen hM hH hl.1 gw_459 hs0 ⟨(Nat.le_of_ble_eq_true rfl), (Nat.le_of_ble_eq_true rfl)⟩ (Nat.le_of_ble_eq_true rfl) ⟨(Nat.le_of_ble_eq_true rfl), (Nat.le_of_ble_eq_true rfl)⟩ dX5_lettersOf_6 (fun H locs hH => ?_)
    refine r_icmp_ge (tgt := 30) hM.fx hr3 (gtx_len _) dX5_lettersOf_9 (by decide) (fun h_1 => ?_) (fun h_1 => ?_)
    · have hf := gpos h_1 hf
      refine lv_lload_n hM.fx.1 hM.fx.2.1 dX5_lettersOf_30 rfl (lv_at hl 1 rfl) ?_
      obtain rfl := Option.some.inj hf
      exact r_lret hM hH hr1 ⟨(Nat.le_of_ble_eq_true rfl), (Nat.le_of_ble_eq_true rfl)⟩ dX5_lettersOf_31
    · have hf := gneg' h_1 hf
      refine lv_lload_n hM.fx.1 hM.fx.2.1 dX5_lettersOf_12 rfl (lv_at hl 1 rfl) ?_
      refine lv_bipush (v := gi (8)) hM.fx.1 hM.fx.2.1 dX5_lettersOf_13 (by decide) ?_
      refine r_lshl hM.fx dX5_lettersOf_15 ?_
      refine lv_aload_n hM.fx.1 hM.fx.2.1 dX5_lettersOf_16 rfl (lv_at hl 0 rfl) ?_
      refine lv_iload_n hM.fx.1 hM.fx.2.1 dX5_lettersOf_17 rfl (lv_at hl 2 rfl) ?_
      obtain ⟨g_2, hf⟩ := gif hf
      refine r_schar hM hH hl.1 gw_469 hs0 hr3 g_2 ⟨(Nat.le_of_ble_eq_true rfl), (Nat.le_of_ble_eq_true rfl)⟩ (Nat.le_of_ble_eq_true rfl) ⟨(Nat.le_of_ble_eq_true rfl), (Nat.le_of_ble_eq_true rfl)⟩ dX5_lettersOf_18 (fun H locs hH => ?_)
      refine r_i2l hM.fx (gtx_r _ _) dX5_lettersOf_21 ?_
      refine r_lor hM.fx dX5_lettersOf_22 ?_
      obtain ⟨x_3, ex_3, hf⟩ := gst_s hf
      refine W.eq (g2 := F0 m _ ls (.long (gj x_3) :: _)) (by rw [ex_3]) ?_
      have hx_3 : gRL x_3 := by rw [ex_3]; exact (gj_r _)
      refine lv_lstore_n (lv' := [(1, .long (gj x_3)), (0, gsR w t0), (3, .int (gi x3))]) hM.fx.1 hM.fx.2.1 dX5_lettersOf_23 rfl hl (by decide) rfl (fun ls hl => ?_)
      obtain ⟨x_4, ex_4, hf⟩ := gst_s hf
      have hx_4 : gRI x_4 := by rw [ex_4]; exact gwi_r _
      refine r_iinc (lv' := [(3, .int (gi x_4)), (1, .long (gj x_3)), (0, gsR w t0)]) hM.fx dX5_lettersOf_24 hl (k := 2) rfl (by decide) (by rw [ex_4]; rfl) (fun ls hl => ?_)
      refine lv_goto (tgt := 4) hM.fx.1 hM.fx.2.1 dX5_lettersOf_27 (by decide) ?_
      exact ih _ _ _ _ _ hs0 hx_3 hx_4 hf _ _ _ hH (lv_sub hl [2, 1, 0] rfl)
def fX5_lettersOf (g : Nat → Nat) (t0 : Nat) : Option Int :=
  fX5_lettersOf_4 g gF t0 0 0
set_option maxHeartbeats 4000000 in
set_option maxRecDepth 100000 in
theorem mX5_lettersOf {w : gW} {n : Nat} {Rm : Nat → Nat → Nat} {g : Nat → Nat} (hLC : gLC g n Rm) {l : Launch} (hl9 : l.stackTraces = false) {t0 : Nat} {M : gMem} {r : Int} (hs0 : gtx t0 ≠ []) (hf : fX5_lettersOf g t0 = some r) : gMT w n Rm l yX5_lettersOf cX5_lettersOf 4 (some .long) 8 250 0 0 [gsR w t0] M (.inr (some (.long (gj r)))) M (gRL r) := by
  unfold fX5_lettersOf at hf
  refine gMT.of hl9 (by decide +kernel) ((Nat.le_of_ble_eq_true rfl)) ?_
  intro p e s m below meth c hM hH ls hl
  have hM : gMC w p l s m ([gsR w t0] : List Value).toArray meth c cX5_lettersOf 4 RX5 (some .long) := hM
  have hl : lv_has ls 4 [(0, gsR w t0)] := hl
  refine lv_lconst (v := gj (0)) hM.fx.1 hM.fx.2.1 dX5_lettersOf_0 (by decide) ?_
  refine lv_lstore_n (lv' := [(1, .long (gj 0)), (0, gsR w t0)]) hM.fx.1 hM.fx.2.1 dX5_lettersOf_1 rfl hl (by decide) rfl (fun ls hl => ?_)
  refine lv_iconst (v := gi (0)) hM.fx.1 hM.fx.2.1 dX5_lettersOf_2 rfl ?_
  refine lv_istore_n (lv' := [(3, .int (gi 0)), (1, .long (gj 0)), (0, gsR w t0)]) hM.fx.1 hM.fx.2.1 dX5_lettersOf_3 rfl hl (by decide) rfl (fun ls hl => ?_)
  exact wX5_lettersOf_4 hLC hM  gF _ _ _ _ _ hs0 (gRI_L (gcR (k := 0) (by decide))) (gcR (k := 0) (by decide)) hf _ _ _ hH (lv_sub hl [2, 1, 0] rfl)
def fX5_isWord (g : Nat → Nat) (a0 : Nat) (t1 : Nat) (M : gMem) : Option Int :=
  if M a0 7 = 256 then ((fX5_lettersOf g t1).bind fun x_5 => if glcmp (M a0 8) x_5 = 0 then (some 1) else (some 0)) else (some 0)
set_option maxHeartbeats 4000000 in
set_option maxRecDepth 100000 in
theorem mX5_isWord {w : gW} {n : Nat} {Rm : Nat → Nat → Nat} {g : Nat → Nat} (hLC : gLC g n Rm) {l : Launch} (hl9 : l.stackTraces = false) {a0 : Nat} {t1 : Nat} {M : gMem} {r : Int} (hg0 : g a0 = 6) (hs1 : gtx t1 ≠ []) (hf : fX5_isWord g a0 t1 M = some r) : gMT w n Rm l yX5_isWord cX5_isWord 2 (some .boolean) 9 273 0 0 [.ref (w.1 + a0), gsR w t1] M (.inr (some (.int (gi r)))) M (r = 0 ∨ r = 1) := by
  unfold fX5_isWord at hf
  refine gMT.of hl9 (by decide +kernel) ((Nat.le_of_ble_eq_true rfl)) ?_
  intro p e s m below meth c hM hH ls hl
  have hM : gMC w p l s m ([.ref (w.1 + a0), gsR w t1] : List Value).toArray meth c cX5_isWord 2 RX5 (some .boolean) := hM
  have hl : lv_has ls 2 [(0, .ref (w.1 + a0)), (1, gsR w t1)] := hl
  refine lv_aload_n hM.fx.1 hM.fx.2.1 dX5_isWord_0 rfl (lv_at hl 0 rfl) ?_
  refine r_getI hM.fx hM.kf hH fl_X5_65 (hLC.in hg0 (by decide)) dX5_isWord_1 ?_
  have hr_1 := hH.2.2.i (hLC.in hg0 (by decide)).2.2 (by decide : glg 6 7 = false)
  refine lv_sipush (v := gi (256)) hM.fx.1 hM.fx.2.1 dX5_isWord_4 (by decide) ?_
  refine r_icmp_ne (tgt := 26) hM.fx hr_1 (gcR (k := 256) (by decide)) dX5_isWord_7 (by decide) (fun h_2 => ?_) (fun h_2 => ?_)
  · have hf := gneg' h_2 hf
    refine lv_iconst (v := gi (0)) hM.fx.1 hM.fx.2.1 dX5_isWord_26 rfl ?_
    obtain rfl := Option.some.inj hf
    exact r_zret hM hH (Or.inl rfl) (Or.inl rfl) ⟨(Nat.le_of_ble_eq_true rfl), (Nat.le_of_ble_eq_true rfl)⟩ dX5_isWord_27
  · have hf := gpos h_2 hf
    refine lv_aload_n hM.fx.1 hM.fx.2.1 dX5_isWord_10 rfl (lv_at hl 0 rfl) ?_
    refine r_getL hM.fx hM.kf hH fl_X5_99 (hLC.in hg0 (by decide)) dX5_isWord_11 ?_
    have hr_3 := hH.2.2.l (hLC.in hg0 (by decide)).2.2 (by decide : glg 6 8 = true)
    refine lv_aload_n hM.fx.1 hM.fx.2.1 dX5_isWord_14 rfl (lv_at hl 1 rfl) ?_
    obtain ⟨x_5, ex_5, hf⟩ := gbd hf
    refine r_go1 hH rfl (r_runS (As := [gsR w t1]) hM hH cs_X5_198 (mX5_lettersOf hLC hM.ns hs1 ex_5) rfl hl.1 rfl (Nat.le_of_ble_eq_true rfl) ⟨(Nat.le_of_ble_eq_true rfl), (Nat.le_of_ble_eq_true rfl)⟩ ⟨(Nat.le_of_ble_eq_true rfl), (Nat.le_of_ble_eq_true rfl)⟩ dX5_isWord_15) (fun hp_4 H locs hH => ?_)
    refine r_lcmp hM.fx hr_3 hp_4 dX5_isWord_18 ?_
    refine r_if_ne (tgt := 26) hM.fx (glcmp_r _ _) dX5_isWord_19 (by decide) (fun h_6 => ?_) (fun h_6 => ?_)
    · have hf := gneg' h_6 hf
      refine lv_iconst (v := gi (0)) hM.fx.1 hM.fx.2.1 dX5_isWord_26 rfl ?_
      obtain rfl := Option.some.inj hf
      exact r_zret hM hH (Or.inl rfl) (Or.inl rfl) ⟨(Nat.le_of_ble_eq_true rfl), (Nat.le_of_ble_eq_true rfl)⟩ dX5_isWord_27
    · have hf := gpos h_6 hf
      refine lv_iconst (v := gi (1)) hM.fx.1 hM.fx.2.1 dX5_isWord_22 rfl ?_
      refine lv_goto (tgt := 27) hM.fx.1 hM.fx.2.1 dX5_isWord_23 (by decide) ?_
      obtain rfl := Option.some.inj hf
      exact r_zret hM hH (Or.inr rfl) (Or.inr rfl) ⟨(Nat.le_of_ble_eq_true rfl), (Nat.le_of_ble_eq_true rfl)⟩ dX5_isWord_27
def fX5_fails (g : Nat → Nat) (a0 : Nat) (x1 : Int) (x2 : Int) (M : gMem) : Option (Int × gMem) :=
  gst (gup M a0 3 x1) fun M_1 => gst (gup M_1 a0 4 x2) fun M_2 => some (0, M_2)
set_option maxHeartbeats 4000000 in
set_option maxRecDepth 100000 in
theorem mX5_fails {w : gW} {n : Nat} {Rm : Nat → Nat → Nat} {g : Nat → Nat} (hLC : gLC g n Rm) {l : Launch} (hl9 : l.stackTraces = false) {a0 : Nat} {x1 : Int} {x2 : Int} {M : gMem} {r : (Int × gMem)} (hg0 : g a0 = 6) (hr1 : gRI x1) (hr2 : gRI x2) (hf : fX5_fails g a0 x1 x2 M = some r) : gMT w n Rm l yX5_fails cX5_fails 3 (some .boolean) 1 60 0 0 [.ref (w.1 + a0), .int (gi x1), .int (gi x2)] M (.inr (some (.int (gi r.1)))) r.2 (r.1 = 0 ∨ r.1 = 1) := by
  unfold fX5_fails at hf
  refine gMT.of hl9 (by decide +kernel) ((Nat.le_of_ble_eq_true rfl)) ?_
  intro p e s m below meth c hM hH ls hl
  have hM : gMC w p l s m ([.ref (w.1 + a0), .int (gi x1), .int (gi x2)] : List Value).toArray meth c cX5_fails 3 RX5 (some .boolean) := hM
  have hl : lv_has ls 3 [(0, .ref (w.1 + a0)), (1, .int (gi x1)), (2, .int (gi x2))] := hl
  refine lv_aload_n hM.fx.1 hM.fx.2.1 dX5_fails_0 rfl (lv_at hl 0 rfl) ?_
  refine lv_iload_n hM.fx.1 hM.fx.2.1 dX5_fails_1 rfl (lv_at hl 1 rfl) ?_
  refine r_putI hM.fx hM.kf hH fp_X5_29 (hLC.in hg0 (by decide)) hr1 dX5_fails_2 (fun H locs hH => ?_)
  obtain ⟨M_1, eM_1, hf⟩ := gst_s hf
  rw [← eM_1] at hH
  refine lv_aload_n hM.fx.1 hM.fx.2.1 dX5_fails_5 rfl (lv_at hl 0 rfl) ?_
  refine lv_iload_n hM.fx.1 hM.fx.2.1 dX5_fails_6 rfl (lv_at hl 2 rfl) ?_
  refine r_putI hM.fx hM.kf hH fp_X5_22 (hLC.in hg0 (by decide)) hr2 dX5_fails_7 (fun H locs hH => ?_)
  obtain ⟨M_2, eM_2, hf⟩ := gst_s hf
  rw [← eM_2] at hH
  refine lv_iconst (v := gi (0)) hM.fx.1 hM.fx.2.1 dX5_fails_10 rfl ?_
  obtain rfl := Option.some.inj hf
  exact r_zret hM hH (Or.inl rfl) (Or.inl rfl) ⟨(Nat.le_of_ble_eq_true rfl), (Nat.le_of_ble_eq_true rfl)⟩ dX5_fails_11
def fX5_takeWord (g : Nat → Nat) (a0 : Nat) (t1 : Nat) (M : gMem) : Option (Int × gMem) :=
  (fX5_isWord g a0 t1 M).bind fun x_2 => if x_2 = 0 then ((fX5_fails g a0 ((-2)) (M a0 6) M).bind fun q_8 => some (q_8.1, q_8.2)) else ((fX5_next g a0 M).bind fun M_5 => some (1, M_5))
set_option maxHeartbeats 4000000 in
set_option maxRecDepth 100000 in
theorem mX5_takeWord {w : gW} {n : Nat} {Rm : Nat → Nat → Nat} {g : Nat → Nat} (hLC : gLC g n Rm) {l : Launch} (hl9 : l.stackTraces = false) {a0 : Nat} {t1 : Nat} {M : gMem} {r : (Int × gMem)} (hg0 : g a0 = 6) (hs1 : gtx t1 ≠ []) (hf : fX5_takeWord g a0 t1 M = some r) : gMT w n Rm l yX5_takeWord cX5_takeWord 2 (some .boolean) 10 294 0 0 [.ref (w.1 + a0), gsR w t1] M (.inr (some (.int (gi r.1)))) r.2 (r.1 = 0 ∨ r.1 = 1) := by
  unfold fX5_takeWord at hf
  refine gMT.of hl9 (by decide +kernel) ((Nat.le_of_ble_eq_true rfl)) ?_
  intro p e s m below meth c hM hH ls hl
  have hM : gMC w p l s m ([.ref (w.1 + a0), gsR w t1] : List Value).toArray meth c cX5_takeWord 2 RX5 (some .boolean) := hM
  have hl : lv_has ls 2 [(0, .ref (w.1 + a0)), (1, gsR w t1)] := hl
  refine lv_aload_n hM.fx.1 hM.fx.2.1 dX5_takeWord_0 rfl (lv_at hl 0 rfl) ?_
  refine lv_aload_n hM.fx.1 hM.fx.2.1 dX5_takeWord_1 rfl (lv_at hl 1 rfl) ?_
  obtain ⟨x_2, ex_2, hf⟩ := gbd hf
  refine r_go1 hH rfl (r_runV (As := [gsR w t1]) hM hH cv_X5_76 (mX5_isWord hLC hM.ns hg0 hs1 ex_2) (hLC.in hg0 (by decide)) (by decide) rfl rfl rfl hl.1 rfl (Nat.le_of_ble_eq_true rfl) ⟨(Nat.le_of_ble_eq_true rfl), (Nat.le_of_ble_eq_true rfl)⟩ ⟨(Nat.le_of_ble_eq_true rfl), (Nat.le_of_ble_eq_true rfl)⟩ dX5_takeWord_2) (fun hp_1 H locs hH => ?_)
  refine r_if_ne (tgt := 19) hM.fx (gz_r hp_1) dX5_takeWord_5 (by decide) (fun h_3 => ?_) (fun h_3 => ?_)
  · have hf := gneg' h_3 hf
    refine lv_aload_n hM.fx.1 hM.fx.2.1 dX5_takeWord_19 rfl (lv_at hl 0 rfl) ?_
    obtain ⟨M_5, eM_5, hf⟩ := gbd hf
    refine r_go0 hH rfl (r_runV (As := []) hM hH cv_X5_35 (mX5_next hLC hM.ns hg0 eM_5) (hLC.in hg0 (by decide)) (by decide) rfl rfl rfl hl.1 rfl (Nat.le_of_ble_eq_true rfl) ⟨(Nat.le_of_ble_eq_true rfl), (Nat.le_of_ble_eq_true rfl)⟩ ⟨(Nat.le_of_ble_eq_true rfl), (Nat.le_of_ble_eq_true rfl)⟩ dX5_takeWord_20) (fun hp_4 H locs hH => ?_)
    refine lv_iconst (v := gi (1)) hM.fx.1 hM.fx.2.1 dX5_takeWord_23 rfl ?_
    obtain rfl := Option.some.inj hf
    exact r_zret hM hH (Or.inr rfl) (Or.inr rfl) ⟨(Nat.le_of_ble_eq_true rfl), (Nat.le_of_ble_eq_true rfl)⟩ dX5_takeWord_24
  · have hf := gpos h_3 hf
    refine lv_aload_n hM.fx.1 hM.fx.2.1 dX5_takeWord_8 rfl (lv_at hl 0 rfl) ?_
    refine lv_bipush (v := gi (-2)) hM.fx.1 hM.fx.2.1 dX5_takeWord_9 (by decide) ?_
    refine lv_aload_n hM.fx.1 hM.fx.2.1 dX5_takeWord_11 rfl (lv_at hl 0 rfl) ?_
    refine r_getI hM.fx hM.kf hH fl_X5_68 (hLC.in hg0 (by decide)) dX5_takeWord_12 ?_
    have hr_6 := hH.2.2.i (hLC.in hg0 (by decide)).2.2 (by decide : glg 6 6 = false)
    obtain ⟨q_8, eq_8, hf⟩ := gbd hf
    refine r_go1 hH rfl (r_runV (As := [.int (gi ((-2))), .int (gi (M a0 6))]) hM hH cv_X5_71 (mX5_fails hLC hM.ns hg0 (gcR (k := -2) (by decide)) hr_6 eq_8) (hLC.in hg0 (by decide)) (by decide) rfl rfl rfl hl.1 rfl (Nat.le_of_ble_eq_true rfl) ⟨(Nat.le_of_ble_eq_true rfl), (Nat.le_of_ble_eq_true rfl)⟩ ⟨(Nat.le_of_ble_eq_true rfl), (Nat.le_of_ble_eq_true rfl)⟩ dX5_takeWord_15) (fun hp_7 H locs hH => ?_)
    obtain rfl := Option.some.inj hf
    exact r_zret hM hH hp_7 hp_7 ⟨(Nat.le_of_ble_eq_true rfl), (Nat.le_of_ble_eq_true rfl)⟩ dX5_takeWord_18
