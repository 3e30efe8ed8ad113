def fX6_makeTurn_72 (g : Nat → Nat)  (a0 : Nat) (x1 : Int) (M : gMem) : Option gMem :=
  gst (gup M a0 8 x1) fun M_1 => gst (gup M_1 a0 7 (gwi (M_1 a0 7 + 1))) fun M_3 => some M_3
set_option maxHeartbeats 4000000 in
set_option maxRecDepth 100000 in
theorem wX6_makeTurn_72 {w : gW} {n : Nat} {Rm : Nat → Nat → Nat} {g : Nat → Nat} (hLC : gLC g n Rm) {p : Program} {l : Launch} {e : Env} {s : State} {m : MethodId} {args : Array Value} {below : List Frame} {meth : Method} {c : Code} (hM : gMC w p l s m args meth c cX6_makeTurn 5 RX6 none)  : ∀ (a0 : Nat) (x1 : Int) (M : gMem) (r : gMem) (hg0 : g a0 = 1) (hr1 : gRI x1) (hf : fX6_makeTurn_72 g a0 x1 M = some r) (H : Heap) (locs : List Loc) (ls : Array Slot) (hH : gH w n Rm M s H locs) (hl : lv_has ls 5 [(0, .ref (w.1 + a0)), (1, .int (gi x1))]), W p l e { frames := 5, cells := 0, slots := 0, locals := 158 } s m args below meth c H locs 0 0 (gQ w n Rm below args s 0 0 (.inr none) r True) (F0 m 72 ls []) := by
  intro a0 x1 M r hg0 hr1 hf H locs ls hH hl
  unfold fX6_makeTurn_72 at hf
  refine lv_aload_n hM.fx.1 hM.fx.2.1 dX6_makeTurn_72 rfl (lv_at hl 0 rfl) ?_
  refine lv_iload_n hM.fx.1 hM.fx.2.1 dX6_makeTurn_73 rfl (lv_at hl 1 rfl) ?_
  refine r_putI hM.fx hM.kf hH fp_X6_73 (hLC.in hg0 (by decide)) hr1 dX6_makeTurn_74 (fun H locs hH => ?_)
  obtain ⟨M_1, eM_1, hf⟩ := gst_s hf
  rw [← eM_1] at hH
  refine lv_aload_n hM.fx.1 hM.fx.2.1 dX6_makeTurn_77 rfl (lv_at hl 0 rfl) ?_
  refine lv_dup hM.fx.1 hM.fx.2.1 dX6_makeTurn_78 rfl ?_
  refine r_getI hM.fx hM.kf hH fl_X6_76 (hLC.in hg0 (by decide)) dX6_makeTurn_79 ?_
  have hr_2 := hH.2.2.i (hLC.in hg0 (by decide)).2.2 (by decide : glg 1 7 = false)
  refine lv_iconst (v := gi (1)) hM.fx.1 hM.fx.2.1 dX6_makeTurn_82 rfl ?_
  refine r_iadd hM.fx dX6_makeTurn_83 ?_
  refine r_putI hM.fx hM.kf hH fp_X6_76 (hLC.in hg0 (by decide)) (gwi_r _) dX6_makeTurn_84 (fun H locs hH => ?_)
  obtain ⟨M_3, eM_3, hf⟩ := gst_s hf
  rw [← eM_3] at hH
  obtain rfl := Option.some.inj hf
  exact r_vret hM hH trivial ⟨(Nat.le_of_ble_eq_true rfl), (Nat.le_of_ble_eq_true rfl)⟩ dX6_makeTurn_87
def fX6_makeTurn_65 (g : Nat → Nat) (k31 : Nat → Int → Nat → Int → Int → gMem → Option gMem) (a0 : Nat) (x1 : Int) (a2 : Nat) (x4 : Int) (xs0 : Int) (M : gMem) : Option gMem :=
  gst (gwi (x4 + 1)) fun x_1 => k31 a0 x1 a2 xs0 x_1 M
set_option maxHeartbeats 4000000 in
set_option maxRecDepth 100000 in
theorem wX6_makeTurn_65 {w : gW} {n : Nat} {Rm : Nat → Nat → Nat} {g : Nat → Nat} (hLC : gLC g n Rm) {p : Program} {l : Launch} {e : Env} {s : State} {m : MethodId} {args : Array Value} {below : List Frame} {meth : Method} {c : Code} (hM : gMC w p l s m args meth c cX6_makeTurn 5 RX6 none) (k31 : Nat → Int → Nat → Int → Int → gMem → Option gMem) (hk31 : ∀ (a0 : Nat) (x1 : Int) (a2 : Nat) (x3 : Int) (x4 : Int) (M : gMem) (r : gMem) (hg0 : g a0 = 1) (hr1 : gRI x1) (hg2 : g a2 = 5) (hr3 : gRI x3) (hr4 : gRI x4) (hf : k31 a0 x1 a2 x3 x4 M = some r) (H : Heap) (locs : List Loc) (ls : Array Slot) (hH : gH w n Rm M s H locs) (hl : lv_has ls 5 [(0, .ref (w.1 + a0)), (1, .int (gi x1)), (2, .ref (w.1 + a2)), (3, .int (gi x3)), (4, .int (gi x4))]), W p l e { frames := 5, cells := 0, slots := 0, locals := 158 } s m args below meth c H locs 0 0 (gQ w n Rm below args s 0 0 (.inr none) r True) (F0 m 31 ls [])) : ∀ (a0 : Nat) (x1 : Int) (a2 : Nat) (x4 : Int) (xs0 : Int) (M : gMem) (r : gMem) (hg0 : g a0 = 1) (hr1 : gRI x1) (hg2 : g a2 = 5) (hr4 : gRI x4) (hrs0 : gRI xs0) (hf : fX6_makeTurn_65 g k31 a0 x1 a2 x4 xs0 M = some r) (H : Heap) (locs : List Loc) (ls : Array Slot) (hH : gH w n Rm M s H locs) (hl : lv_has ls 5 [(0, .ref (w.1 + a0)), (1, .int (gi x1)), (2, .ref (w.1 + a2)), (4, .int (gi x4))]), W p l e { frames := 5, cells := 0, slots := 0, locals := 158 } s m args below meth c H locs 0 0 (gQ w n Rm below args s 0 0 (.inr none) r True) (F0 m 65 ls [.int (gi xs0)]) := by
  intro a0 x1 a2 x4 xs0 M r hg0 hr1 hg2 hr4 hrs0 hf H locs ls hH hl
  unfold fX6_makeTurn_65 at hf
  refine lv_istore_n (lv' := [(3, .int (gi xs0)), (0, .ref (w.1 + a0)), (1, .int (gi x1)), (2, .ref (w.1 + a2)), (4, .int (gi x4))]) hM.fx.1 hM.fx.2.1 dX6_makeTurn_65 rfl hl (by decide) rfl (fun ls hl => ?_)
  obtain ⟨x_1, ex_1, hf⟩ := gst_s hf
  have hx_1 : gRI x_1 := by rw [ex_1]; exact gwi_r _
  refine r_iinc (lv' := [(4, .int (gi x_1)), (3, .int (gi xs0)), (0, .ref (w.1 + a0)), (1, .int (gi x1)), (2, .ref (w.1 + a2))]) hM.fx dX6_makeTurn_66 hl (k := 4) rfl (by decide) (by rw [ex_1]; rfl) (fun ls hl => ?_)
  refine lv_goto (tgt := 31) hM.fx.1 hM.fx.2.1 dX6_makeTurn_69 (by decide) ?_
  exact hk31 _ _ _ _ _ _ _ hg0 hr1 hg2 hrs0 hx_1 hf _ _ _ hH (lv_sub hl [2, 3, 4, 1, 0] rfl)
def fX6_makeTurn_64 (g : Nat → Nat) (k31 : Nat → Int → Nat → Int → Int → gMem → Option gMem) (a0 : Nat) (x1 : Int) (a2 : Nat) (x4 : Int) (M : gMem) : Option gMem :=
  fX6_makeTurn_65 g k31 a0 x1 a2 x4 0 M
set_option maxHeartbeats 4000000 in
set_option maxRecDepth 100000 in
theorem wX6_makeTurn_64 {w : gW} {n : Nat} {Rm : Nat → Nat → Nat} {g : Nat → Nat} (hLC : gLC g n Rm) {p : Program} {l : Launch} {e : Env} {s : State} {m : MethodId} {args : Array Value} {below : List Frame} {meth : Method} {c : Code} (hM : gMC w p l s m args meth c cX6_makeTurn 5 RX6 none) (k31 : Nat → Int → Nat → Int → Int → gMem → Option gMem) (hk31 : ∀ (a0 : Nat) (x1 : Int) (a2 : Nat) (x3 : Int) (x4 : Int) (M : gMem) (r : gMem) (hg0 : g a0 = 1) (hr1 : gRI x1) (hg2 : g a2 = 5) (hr3 : gRI x3) (hr4 : gRI x4) (hf : k31 a0 x1 a2 x3 x4 M = some r) (H : Heap) (locs : List Loc) (ls : Array Slot) (hH : gH w n Rm M s H locs) (hl : lv_has ls 5 [(0, .ref (w.1 + a0)), (1, .int (gi x1)), (2, .ref (w.1 + a2)), (3, .int (gi x3)), (4, .int (gi x4))]), W p l e { frames := 5, cells := 0, slots := 0, locals := 158 } s m args below meth c H locs 0 0 (gQ w n Rm below args s 0 0 (.inr none) r True) (F0 m 31 ls [])) : ∀ (a0 : Nat) (x1 : Int) (a2 : Nat) (x4 : Int) (M : gMem) (r : gMem) (hg0 : g a0 = 1) (hr1 : gRI x1) (hg2 : g a2 = 5) (hr4 : gRI x4) (hf : fX6_makeTurn_64 g k31 a0 x1 a2 x4 M = some r) (H : Heap) (locs : List Loc) (ls : Array Slot) (hH : gH w n Rm M s H locs) (hl : lv_has ls 5 [(0, .ref (w.1 + a0)), (1, .int (gi x1)), (2, .ref (w.1 + a2)), (4, .int (gi x4))]), W p l e { frames := 5, cells := 0, slots := 0, locals := 158 } s m args below meth c H locs 0 0 (gQ w n Rm below args s 0 0 (.inr none) r True) (F0 m 64 ls []) := by
  intro a0 x1 a2 x4 M r hg0 hr1 hg2 hr4 hf H locs ls hH hl
  unfold fX6_makeTurn_64 at hf
  refine lv_iconst (v := gi (0)) hM.fx.1 hM.fx.2.1 dX6_makeTurn_64 rfl ?_
  exact wX6_makeTurn_65 hLC hM k31 hk31  _ _ _ _ _ _ _ hg0 hr1 hg2 hr4 (gcR (k := 0) (by decide)) hf _ _ _ hH hl
def fX6_makeTurn_31 (g : Nat → Nat)  : Nat → Nat → Int → Nat → Int → Int → gMem → Option gMem
  | 0, _, _, _, _, _, _ => none
  | fu + 1, a0, x1, a2, x3, x4, M => if x3 = 0 then (fX6_makeTurn_72 g a0 x1 M) else (if M a2 5 ≤ x4 then (fX6_makeTurn_72 g a0 x1 M) else ((fX6_makeStep g a0 x1 a2 M).bind fun q_5 => if q_5.1 = 0 then (fX6_makeTurn_64 g (fX6_makeTurn_31 g fu) a0 x1 a2 x4 q_5.2) else (if q_5.2 a2 8 = 0 then (fX6_makeTurn_65 g (fX6_makeTurn_31 g fu) a0 x1 a2 x4 1 q_5.2) else (fX6_makeTurn_64 g (fX6_makeTurn_31 g fu) a0 x1 a2 x4 q_5.2))))
set_option maxHeartbeats 4000000 in
set_option maxRecDepth 100000 in
theorem wX6_makeTurn_31 {w : gW} {n : Nat} {Rm : Nat → Nat → Nat} {g : Nat → Nat} (hLC : gLC g n Rm) {p : Program} {l : Launch} {e : Env} {s : State} {m : MethodId} {args : Array Value} {below : List Frame} {meth : Method} {c : Code} (hM : gMC w p l s m args meth c cX6_makeTurn 5 RX6 none)  : ∀ (fu : Nat), ∀ (a0 : Nat) (x1 : Int) (a2 : Nat) (x3 : Int) (x4 : Int) (M : gMem) (r : gMem) (hg0 : g a0 = 1) (hr1 : gRI x1) (hg2 : g a2 = 5) (hr3 : gRI x3) (hr4 : gRI x4) (hf : fX6_makeTurn_31 g fu a0 x1 a2 x3 x4 M = some r) (H : Heap) (locs : List Loc) (ls : Array Slot) (hH : gH w n Rm M s H locs) (hl : lv_has ls 5 [(0, .ref (w.1 + a0)), (1, .int (gi x1)), (2, .ref (w.1 + a2)), (3, .int (gi x3)), (4, .int (gi x4))]), W p l e { frames := 5, cells := 0, slots := 0, locals := 158 } s m args below meth c H locs 0 0 (gQ w n Rm below args s 0 0 (.inr none) r True) (F0 m 31 ls []) := by
  intro fu
  induction fu with
  | zero =>
    intro a0 x1 a2 x3 x4 M r hg0 hr1 hg2 hr3 hr4 hf H locs ls hH hl
    exact absurd hf (by simp [fX6_makeTurn_31])
  | succ fu ih =>
    intro a0 x1 a2 x3 x4 M r hg0 hr1 hg2 hr3 hr4 hf H locs ls hH hl
    unfold fX6_makeTurn_31 at hf
    refine lv_iload_n hM.fx.1 hM.fx.2.1 dX6_makeTurn_31 rfl (lv_at hl 3 rfl) ?_
    refine r_if_eq (tgt := 72) hM.fx hr3 dX6_makeTurn_32 (by decide) (fun h_1 => ?_) (fun h_1 => ?_)
    · have hf := gpos h_1 hf
      exact wX6_makeTurn_72 hLC hM   _ _ _ _ hg0 hr1 hf _ _ _ hH (lv_sub hl [0, 1] rfl)
    · have hf := gneg' h_1 hf
      refine lv_iload hM.fx.1 hM.fx.2.1 dX6_makeTurn_35 (lv_at hl 4 rfl) ?_
      refine lv_aload_n hM.fx.1 hM.fx.2.1 dX6_makeTurn_37 rfl (lv_at hl 2 rfl) ?_
      refine r_getI hM.fx hM.kf hH fl_X6_66 (hLC.in hg2 (by decide)) dX6_makeTurn_38 ?_
      have hr_2 := hH.2.2.i (hLC.in hg2 (by decide)).2.2 (by decide : glg 5 5 = false)
      refine r_icmp_ge (tgt := 72) hM.fx hr4 hr_2 dX6_makeTurn_41 (by decide) (fun h_3 => ?_) (fun h_3 => ?_)
      · have hf := gpos h_3 hf
        exact wX6_makeTurn_72 hLC hM   _ _ _ _ hg0 hr1 hf _ _ _ hH (lv_sub hl [0, 1] rfl)
      · have hf := gneg' h_3 hf
        refine lv_aload_n hM.fx.1 hM.fx.2.1 dX6_makeTurn_44 rfl (lv_at hl 0 rfl) ?_
        refine lv_iload_n hM.fx.1 hM.fx.2.1 dX6_makeTurn_45 rfl (lv_at hl 1 rfl) ?_
        refine lv_aload_n hM.fx.1 hM.fx.2.1 dX6_makeTurn_46 rfl (lv_at hl 2 rfl) ?_
        obtain ⟨q_5, eq_5, hf⟩ := gbd hf
        refine r_go1 hH rfl (r_runS (As := [.ref (w.1 + a0), .int (gi x1), .ref (w.1 + a2)]) hM hH cs_X6_69 (mX6_makeStep hLC hM.ns hg0 hr1 hg2 eq_5) rfl hl.1 rfl (Nat.le_of_ble_eq_true rfl) ⟨(Nat.le_of_ble_eq_true rfl), (Nat.le_of_ble_eq_true rfl)⟩ ⟨(Nat.le_of_ble_eq_true rfl), (Nat.le_of_ble_eq_true rfl)⟩ dX6_makeTurn_47) (fun hp_4 H locs hH => ?_)
        refine r_if_eq (tgt := 64) hM.fx (gz_r hp_4) dX6_makeTurn_50 (by decide) (fun h_6 => ?_) (fun h_6 => ?_)
        · have hf := gpos h_6 hf
          exact wX6_makeTurn_64 hLC hM (fX6_makeTurn_31 g fu) ih  _ _ _ _ _ _ hg0 hr1 hg2 hr4 hf _ _ _ hH (lv_sub hl [0, 1, 2, 4] rfl)
        · have hf := gneg' h_6 hf
          refine lv_aload_n hM.fx.1 hM.fx.2.1 dX6_makeTurn_53 rfl (lv_at hl 2 rfl) ?_
          refine r_getI hM.fx hM.kf hH fl_X6_29 (hLC.in hg2 (by decide)) dX6_makeTurn_54 ?_
          have hr_7 := hH.2.2.i (hLC.in hg2 (by decide)).2.2 (by decide : glg 5 8 = false)
          refine r_if_ne (tgt := 64) hM.fx hr_7 dX6_makeTurn_57 (by decide) (fun h_8 => ?_) (fun h_8 => ?_)
          · have hf := gneg' h_8 hf
            exact wX6_makeTurn_64 hLC hM (fX6_makeTurn_31 g fu) ih  _ _ _ _ _ _ hg0 hr1 hg2 hr4 hf _ _ _ hH (lv_sub hl [0, 1, 2, 4] rfl)
          · have hf := gpos h_8 hf
            refine lv_iconst (v := gi (1)) hM.fx.1 hM.fx.2.1 dX6_makeTurn_60 rfl ?_
            refine lv_goto (tgt := 65) hM.fx.1 hM.fx.2.1 dX6_makeTurn_61 (by decide) ?_
            exact wX6_makeTurn_65 hLC hM (fX6_makeTurn_31 g fu) ih  _ _ _ _ _ _ _ hg0 hr1 hg2 hr4 (gcR (k := 1) (by decide)) hf _ _ _ hH (lv_sub hl [0, 1, 2, 4] rfl)
def fX6_makeTurn (g : Nat → Nat) (a0 : Nat) (M : gMem) : Option gMem :=
  (fX0_nextProc g a0 M).bind fun x_2 => (fX0_procAt g a0 x_2 M).bind fun a_4 => if a_4 = 0 then (some M) else (gst (gup M a_4 11 (gwi (M a_4 11 + 1))) fun M_7 => fX6_makeTurn_31 g gF a0 x_2 a_4 1 0 M_7)
set_option maxHeartbeats 4000000 in
set_option maxRecDepth 100000 in
theorem mX6_makeTurn {w : gW} {n : Nat} {Rm : Nat → Nat → Nat} {g : Nat → Nat} (hLC : gLC g n Rm) {l : Launch} (hl9 : l.stackTraces = false) {a0 : Nat} {M : gMem} {r : gMem} (hg0 : g a0 = 1) (hf : fX6_makeTurn g a0 M = some r) : gMT w n Rm l yX6_makeTurn cX6_makeTurn 5 none 5 158 0 0 [.ref (w.1 + a0)] M (.inr none) r True := by
  unfold fX6_makeTurn at hf
  refine gMT.of hl9 (by decide +kernel) ((Nat.le_of_ble_eq_true rfl)) ?_
  intro p e s m below meth c hM hH ls hl
  have hM : gMC w p l s m ([.ref (w.1 + a0)] : List Value).toArray meth c cX6_makeTurn 5 RX6 none := hM
  have hl : lv_has ls 5 [(0, .ref (w.1 + a0))] := hl
  refine lv_aload_n hM.fx.1 hM.fx.2.1 dX6_makeTurn_0 rfl (lv_at hl 0 rfl) ?_
  obtain ⟨x_2, ex_2, hf⟩ := gbd hf
  refine r_go1 hH rfl (r_runV (As := []) hM hH cv_X6_59 (mX0_nextProc hLC hM.ns hg0 ex_2) (hLC.in hg0 (by decide)) (by decide) rfl rfl rfl hl.1 rfl (Nat.le_of_ble_eq_true rfl) ⟨(Nat.le_of_ble_eq_true rfl), (Nat.le_of_ble_eq_true rfl)⟩ ⟨(Nat.le_of_ble_eq_true rfl), (Nat.le_of_ble_eq_true rfl)⟩ dX6_makeTurn_1) (fun hp_1 H locs hH => ?_)
  refine lv_istore_n (lv' := [(1, .int (gi x_2)), (0, .ref (w.1 + a0))]) hM.fx.1 hM.fx.2.1 dX6_makeTurn_4 rfl hl (by decide) rfl (fun ls hl => ?_)
  refine lv_aload_n hM.fx.1 hM.fx.2.1 dX6_makeTurn_5 rfl (lv_at hl 1 rfl) ?_
  refine lv_iload_n hM.fx.1 hM.fx.2.1 dX6_makeTurn_6 rfl (lv_at hl 0 rfl) ?_
  obtain ⟨a_4, ea_4, hf⟩ := gbd hf
  refine r_go1 hH rfl (r_runV (As := [.int (gi x_2)]) hM hH cv_X6_25 (mX0_procAt hLC hM.ns hg0 hp_1 ea_4) (hLC.in hg0 (by decide)) (by decide) rfl rfl rfl hl.1 rfl (Nat.le_of_ble_eq_true rfl) ⟨(Nat.le_of_ble_eq_true rfl), (Nat.le_of_ble_eq_true rfl)⟩ ⟨(Nat.le_of_ble_eq_true rfl), (Nat.le_of_ble_eq_true rfl)⟩ dX6_makeTurn_7) (fun hp_3 H locs hH => ?_)
  refine r_astore_nV (lv' := [(2, gvR w a_4), (1, .int (gi x_2)), (0, .ref (w.1 + a0))]) hM.fx dX6_makeTurn_10 rfl hl (by decide) rfl (fun ls hl => ?_)
  refine r_aload_nV hM.fx dX6_makeTurn_11 rfl (lv_at hl 0 rfl) ?_
  refine r_ifnonnull (tgt := 16) hM.fx dX6_makeTurn_12 (by decide) (fun h_5 => ?_) (fun h_5 => ?_)
  · have hf := gneg' h_5 hf
    rw [gvR_nn h_5] at hl
    refine lv_aload_n hM.fx.1 hM.fx.2.1 dX6_makeTurn_16 rfl (lv_at hl 0 rfl) ?_
    refine lv_dup hM.fx.1 hM.fx.2.1 dX6_makeTurn_17 rfl ?_
    refine r_getI hM.fx hM.kf hH fl_X6_63 (hLC.in (hp_3 h_5) (by decide)) dX6_makeTurn_18 ?_
    have hr_6 := hH.2.2.i (hLC.in (hp_3 h_5) (by decide)).2.2 (by decide : glg 5 11 = false)
    refine lv_iconst (v := gi (1)) hM.fx.1 hM.fx.2.1 dX6_makeTurn_21 rfl ?_
    refine r_iadd hM.fx dX6_makeTurn_22 ?_
    refine r_putI hM.fx hM.kf hH fp_X6_63 (hLC.in (hp_3 h_5) (by decide)) (gwi_r _) dX6_makeTurn_23 (fun H locs hH => ?_)
    obtain ⟨M_7, eM_7, hf⟩ := gst_s hf
    rw [← eM_7] at hH
    refine lv_iconst (v := gi (1)) hM.fx.1 hM.fx.2.1 dX6_makeTurn_26 rfl ?_
    refine lv_istore_n (lv' := [(3, .int (gi 1)), (2, .ref (w.1 + a_4)), (1, .int (gi x_2)), (0, .ref (w.1 + a0))]) hM.fx.1 hM.fx.2.1 dX6_makeTurn_27 rfl hl (by decide) rfl (fun ls hl => ?_)
    refine lv_iconst (v := gi (0)) hM.fx.1 hM.fx.2.1 dX6_makeTurn_28 rfl ?_
    refine lv_istore (lv' := [(4, .int (gi 0)), (3, .int (gi 1)), (2, .ref (w.1 + a_4)), (1, .int (gi x_2)), (0, .ref (w.1 + a0))]) hM.fx.1 hM.fx.2.1 dX6_makeTurn_29 hl (by decide) rfl (fun ls hl => ?_)
    exact wX6_makeTurn_31 hLC hM  gF _ _ _ _ _ _ _ hg0 hp_1 (hp_3 h_5) (gcR (k := 1) (by decide)) (gcR (k := 0) (by decide)) hf _ _ _ hH (lv_sub hl [4, 3, 2, 1, 0] rfl)
  · have hf := gpos h_5 hf
    obtain rfl := Option.some.inj hf
    exact r_vret hM hH trivial ⟨(Nat.le_of_ble_eq_true rfl), (Nat.le_of_ble_eq_true rfl)⟩ dX6_makeTurn_15
def fX6_advance_2 (g : Nat → Nat)  : Nat → Nat → Int → Int → gMem → Option (Int × gMem)
  | 0, _, _, _, _ => none
  | fu + 1, a0, x1, x2, M => if x1 ≤ x2 then (some (x2, M)) else ((fX6_isOver g a0 M).bind fun x_3 => if x_3 = 0 then ((fX6_makeTurn g a0 M).bind fun M_6 => gst (gwi (x2 + 1)) fun x_7 => fX6_advance_2 g fu a0 x1 x_7 M_6) else (some (x2, M)))
set_option maxHeartbeats 4000000 in
set_option maxRecDepth 100000 in
theorem wX6_advance_2 {w : gW} {n : Nat} {Rm : Nat → Nat → Nat} {g : Nat → Nat} (hLC : gLC g n Rm) {p : Program} {l : Launch} {e : Env} {s : State} {m : MethodId} {args : Array Value} {below : List Frame} {meth : Method} {c : Code} (hM : gMC w p l s m args meth c cX6_advance 3 RX6 (some .int))  : ∀ (fu : Nat), ∀ (a0 : Nat) (x1 : Int) (x2 : Int) (M : gMem) (r : (Int × gMem)) (hg0 : g a0 = 1) (hr1 : gRI x1) (hr2 : gRI x2) (hf : fX6_advance_2 g fu a0 x1 x2 M = some r) (H : Heap) (locs : List Loc) (ls : Array Slot) (hH : gH w n Rm M s H locs) (hl : lv_has ls 3 [(0, .ref (w.1 + a0)), (1, .int (gi x1)), (2, .int (gi x2))]), W p l e { frames := 6, cells := 0, slots := 0, locals := 182 } s m args below meth c H locs 0 0 (gQ w n Rm below args s 0 0 (.inr (some (.int (gi r.1)))) r.2 (gRI r.1)) (F0 m 2 ls []) := by
  intro fu
  induction fu with
  | zero =>
    intro a0 x1 x2 M r hg0 hr1 hr2 hf H locs ls hH hl
    exact absurd hf (by simp [fX6_advance_2])
  | succ fu ih =>
    intro a0 x1 x2 M r hg0 hr1 hr2 hf H locs ls hH hl
    unfold fX6_advance_2 at hf
    refine lv_iload_n hM.fx.1 hM.fx.2.1 dX6_advance_2 rfl (lv_at hl 2 rfl) ?_
    refine lv_iload_n hM.fx.1 hM.fx.2.1 dX6_advance_3 rfl (lv_at hl 1 rfl) ?_
    refine r_icmp_ge (tgt := 24) hM.fx hr2 hr1 dX6_advance_4 (by decide) (fun h_1 => ?_) (fun h_1 => ?_)
    · have hf := gpos h_1 hf
      refine lv_iload_n hM.fx.1 hM.fx.2.1 dX6_advance_24 rfl (lv_at hl 2 rfl) ?_
      obtain rfl := Option.some.inj hf
      exact r_iret hM hH hr2 ⟨(Nat.le_of_ble_eq_true rfl), (Nat.le_of_ble_eq_true rfl)⟩ dX6_advance_25
    · have hf := gneg' h_1 hf
      refine lv_aload_n hM.fx.1 hM.fx.2.1 dX6_advance_7 rfl (lv_at hl 0 rfl) ?_
      obtain ⟨x_3, ex_3, hf⟩ := gbd hf
      refine r_go1 hH rfl (r_runS (As := [.ref (w.1 + a0)]) hM hH cs_X6_9 (mX6_isOver hLC hM.ns hg0 ex_3) rfl hl.1 rfl (Nat.le_of_ble_eq_true rfl) ⟨(Nat.le_of_ble_eq_true rfl), (Nat.le_of_ble_eq_true rfl)⟩ ⟨(Nat.le_of_ble_eq_true rfl), (Nat.le_of_ble_eq_true rfl)⟩ dX6_advance_8) (fun hp_2 H locs hH => ?_)
      refine r_if_ne (tgt := 24) hM.fx (gz_r hp_2) dX6_advance_11 (by decide) (fun h_4 => ?_) (fun h_4 => ?_)
      · have hf := gneg' h_4 hf
        refine lv_iload_n hM.fx.1 hM.fx.2.1 dX6_advance_24 rfl (lv_at hl 2 rfl) ?_
        obtain rfl := Option.some.inj hf
        exact r_iret hM hH hr2 ⟨(Nat.le_of_ble_eq_true rfl), (Nat.le_of_ble_eq_true rfl)⟩ dX6_advance_25
      · have hf := gpos h_4 hf
        refine lv_aload_n hM.fx.1 hM.fx.2.1 dX6_advance_14 rfl (lv_at hl 0 rfl) ?_
        obtain ⟨M_6, eM_6, hf⟩ := gbd hf
        refine r_go0 hH rfl (r_runS (As := [.ref (w.1 + a0)]) hM hH cs_X6_15 (mX6_makeTurn hLC hM.ns hg0 eM_6) rfl hl.1 rfl (Nat.le_of_ble_eq_true rfl) ⟨(Nat.le_of_ble_eq_true rfl), (Nat.le_of_ble_eq_true rfl)⟩ ⟨(Nat.le_of_ble_eq_true rfl), (Nat.le_of_ble_eq_true rfl)⟩ dX6_advance_15) (fun hp_5 H locs hH => ?_)
        obtain ⟨x_7, ex_7, hf⟩ := gst_s hf
        have hx_7 : gRI x_7 := by rw [ex_7]; exact gwi_r _
        refine r_iinc (lv' := [(2, .int (gi x_7)), (0, .ref (w.1 + a0)), (1, .int (gi x1))]) hM.fx dX6_advance_18 hl (k := 2) rfl (by decide) (by rw [ex_7]; rfl) (fun ls hl => ?_)
        refine lv_goto (tgt := 2) hM.fx.1 hM.fx.2.1 dX6_advance_21 (by decide) ?_
        exact ih _ _ _ _ _ hg0 hr1 hx_7 hf _ _ _ hH (lv_sub hl [1, 2, 0] rfl)
def fX6_advance (g : Nat → Nat) (a0 : Nat) (x1 : Int) (M : gMem) : Option (Int × gMem) :=
  fX6_advance_2 g gF a0 x1 0 M
set_option maxHeartbeats 4000000 in
set_option maxRecDepth 100000 in
theorem mX6_advance {w : gW} {n : Nat} {Rm : Nat → Nat → Nat} {g : Nat → Nat} (hLC : gLC g n Rm) {l : Launch} (hl9 : l.stackTraces = false) {a0 : Nat} {x1 : Int} {M : gMem} {r : (Int × gMem)} (hg0 : g a0 = 1) (hr1 : gRI x1) (hf : fX6_advance g a0 x1 M = some r) : gMT w n Rm l yX6_advance cX6_advance 3 (some .int) 6 182 0 0 [.ref (w.1 + a0), .int (gi x1)] M (.inr (some (.int (gi r.1)))) r.2 (gRI r.1) := by
  unfold fX6_advance at hf
  refine gMT.of hl9 (by decide +kernel) ((Nat.le_of_ble_eq_true rfl)) ?_
  intro p e s m below meth c hM hH ls hl
  have hM : gMC w p l s m ([.ref (w.1 + a0), .int (gi x1)] : List Value).toArray meth c cX6_advance 3 RX6 (some .int) := hM
  have hl : lv_has ls 3 [(0, .ref (w.1 + a0)), (1, .int (gi x1))] := hl
  refine lv_iconst (v := gi (0)) hM.fx.1 hM.fx.2.1 dX6_advance_0 rfl ?_
  refine lv_istore_n (lv' := [(2, .int (gi 0)), (0, .ref (w.1 + a0)), (1, .int (gi x1))]) hM.fx.1 hM.fx.2.1 dX6_advance_1 rfl hl (by decide) rfl (fun ls hl => ?_)
  exact wX6_advance_2 hLC hM  gF _ _ _ _ _ hg0 hr1 (gcR (k := 0) (by decide)) hf _ _ _ hH (lv_sub hl [1, 2, 0] rfl)
def fX6_stuckSet_36 (g : Nat → Nat) (k4 : Nat → Int → Int → gMem → Option Int) (a0 : Nat) (x1 : Int) (x2 : Int) (M : gMem) : Option Int :=
  gst (gwi (x2 + 1)) fun x_1 => k4 a0 x1 x_1 M
set_option maxHeartbeats 4000000 in
set_option maxRecDepth 100000 in
theorem wX6_stuckSet_36 {w : gW} {n : Nat} {Rm : Nat → Nat → Nat} {g : Nat → Nat} (hLC : gLC g n Rm) {p : Program} {l : Launch} {e : Env} {s : State} {m : MethodId} {args : Array Value} {below : List Frame} {meth : Method} {c : Code} (hM : gMC w p l s m args meth c cX6_stuckSet 4 RX6 (some .int)) (k4 : Nat → Int → Int → gMem → Option Int) (hk4 : ∀ (a0 : Nat) (x1 : Int) (x2 : Int) (M : gMem) (r : Int) (hg0 : g a0 = 1) (hr1 : gRI x1) (hr2 : gRI x2) (hf : k4 a0 x1 x2 M = some r) (H : Heap) (locs : List Loc) (ls : Array Slot) (hH : gH w n Rm M s H locs) (hl : lv_has ls 4 [(0, .ref (w.1 + a0)), (1, .int (gi x1)), (2, .int (gi x2))]), W p l e { frames := 4, cells := 0, slots := 0, locals := 127 } s m args below meth c H locs 0 0 (gQ w n Rm below args s 0 0 (.inr (some (.int (gi r)))) M (gRI r)) (F0 m 4 ls [])) : ∀ (a0 : Nat) (x1 : Int) (x2 : Int) (M : gMem) (r : Int) (hg0 : g a0 = 1) (hr1 : gRI x1) (hr2 : gRI x2) (hf : fX6_stuckSet_36 g k4 a0 x1 x2 M = some r) (H : Heap) (locs : List Loc) (ls : Array Slot) (hH : gH w n Rm M s H locs) (hl : lv_has ls 4 [(0, .ref (w.1 + a0)), (1, .int (gi x1)), (2, .int (gi x2))]), W p l e { frames := 4, cells := 0, slots := 0, locals := 127 } s m args below meth c H locs 0 0 (gQ w n Rm below args s 0 0 (.inr (some (.int (gi r)))) M (gRI r)) (F0 m 36 ls []) := by
  intro a0 x1 x2 M r hg0 hr1 hr2 hf H locs ls hH hl
  unfold fX6_stuckSet_36 at hf
  obtain ⟨x_1, ex_1, hf⟩ := gst_s hf
  have hx_1 : gRI x_1 := by rw [ex_1]; exact gwi_r _
  refine r_iinc (lv' := [(2, .int (gi x_1)), (0, .ref (w.1 + a0)), (1, .int (gi x1))]) hM.fx dX6_stuckSet_36 hl (k := 2) rfl (by decide) (by rw [ex_1]; rfl) (fun ls hl => ?_)
  refine lv_goto (tgt := 4) hM.fx.1 hM.fx.2.1 dX6_stuckSet_39 (by decide) ?_
  exact hk4 _ _ _ _ _ hg0 hr1 hx_1 hf _ _ _ hH (lv_sub hl [1, 2, 0] rfl)
def fX6_stuckSet_4 (g : Nat → Nat)  : Nat → Nat → Int → Int → gMem → Option Int
  | 0, _, _, _, _ => none
  | fu + 1, a0, x1, x2, M => if M a0 5 ≤ x2 then (some x1) else ((fX0_procAt g a0 x2 M).bind fun a_4 => if a_4 = 0 then (fX6_stuckSet_36 g (fX6_stuckSet_4 g fu) a0 x1 x2 M) else ((fX6_waitReason g a0 a_4 M).bind fun x_7 => if x_7 = 0 then (fX6_stuckSet_36 g (fX6_stuckSet_4 g fu) a0 x1 x2 M) else (gst (gor x1 (gshl 1 x2)) fun x_9 => fX6_stuckSet_36 g (fX6_stuckSet_4 g fu) a0 x_9 x2 M)))
set_option maxHeartbeats 4000000 in
set_option maxRecDepth 100000 in
theorem wX6_stuckSet_4 {w : gW} {n : Nat} {Rm : Nat → Nat → Nat} {g : Nat → Nat} (hLC : gLC g n Rm) {p : Program} {l : Launch} {e : Env} {s : State} {m : MethodId} {args : Array Value} {below : List Frame} {meth : Method} {c : Code} (hM : gMC w p l s m args meth c cX6_stuckSet 4 RX6 (some .int))  : ∀ (fu : Nat), ∀ (a0 : Nat) (x1 : Int) (x2 : Int) (M : gMem) (r : Int) (hg0 : g a0 = 1) (hr1 : gRI x1) (hr2 : gRI x2) (hf : fX6_stuckSet_4 g fu a0 x1 x2 M = some r) (H : Heap) (locs : List Loc) (ls : Array Slot) (hH : gH w n Rm M s H locs) (hl : lv_has ls 4 [(0, .ref (w.1 + a0)), (1, .int (gi x1)), (2, .int (gi x2))]), W p l e { frames := 4, cells := 0, slots := 0, locals := 127 } s m args below meth c H locs 0 0 (gQ w n Rm below args s 0 0 (.inr (some (.int (gi r)))) M (gRI r)) (F0 m 4 ls []) := by
  intro fu
  induction fu with
  | zero =>
    intro a0 x1 x2 M r hg0 hr1 hr2 hf H locs ls hH hl
    exact absurd hf (by simp [fX6_stuckSet_4])
  | succ fu ih =>
    intro a0 x1 x2 M r hg0 hr1 hr2 hf H locs ls hH hl
    unfold fX6_stuckSet_4 at hf
    refine lv_iload_n hM.fx.1 hM.fx.2.1 dX6_stuckSet_4 rfl (lv_at hl 2 rfl) ?_
    refine lv_aload_n hM.fx.1 hM.fx.2.1 dX6_stuckSet_5 rfl (lv_at hl 0 rfl) ?_
    refine r_getI hM.fx hM.kf hH fl_X6_19 (hLC.in hg0 (by decide)) dX6_stuckSet_6 ?_
    have hr_1 := hH.2.2.i (hLC.in hg0 (by decide)).2.2 (by decide : glg 1 5 = false)
    refine r_icmp_ge (tgt := 42) hM.fx hr2 hr_1 dX6_stuckSet_9 (by decide) (fun h_2 => ?_) (fun h_2 => ?_)
    · have hf := gpos h_2 hf
      refine lv_iload_n hM.fx.1 hM.fx.2.1 dX6_stuckSet_42 rfl (lv_at hl 1 rfl) ?_
      obtain rfl := Option.some.inj hf
      exact r_iret hM hH hr1 ⟨(Nat.le_of_ble_eq_true rfl), (Nat.le_of_ble_eq_true rfl)⟩ dX6_stuckSet_43
    · have hf := gneg' h_2 hf
      refine lv_aload_n hM.fx.1 hM.fx.2.1 dX6_stuckSet_12 rfl (lv_at hl 0 rfl) ?_
      refine lv_iload_n hM.fx.1 hM.fx.2.1 dX6_stuckSet_13 rfl (lv_at hl 2 rfl) ?_
      obtain ⟨a_4, ea_4, hf⟩ := gbd hf
      refine r_go1 hH rfl (r_runV (As := [.int (gi x2)]) hM hH cv_X6_25 (mX0_procAt hLC hM.ns hg0 hr2 ea_4) (hLC.in hg0 (by decide)) (by decide) rfl rfl rfl hl.1 rfl (Nat.le_of_ble_eq_true rfl) ⟨(Nat.le_of_ble_eq_true rfl), (Nat.le_of_ble_eq_true rfl)⟩ ⟨(Nat.le_of_ble_eq_true rfl), (Nat.le_of_ble_eq_true rfl)⟩ dX6_stuckSet_14) (fun hp_3 H locs hH => ?_)
      refine r_astore_nV (lv' := [(3, gvR w a_4), (0, .ref (w.1 + a0)), (1, .int (gi x1)), (2, .int (gi x2))]) hM.fx dX6_stuckSet_17 rfl hl (by decide) rfl (fun ls hl => ?_)
      refine r_aload_nV hM.fx dX6_stuckSet_18 rfl (lv_at hl 0 rfl) ?_
      refine r_ifnull (tgt := 36) hM.fx dX6_stuckSet_19 (by decide) (fun h_5 => ?_) (fun h_5 => ?_)
      · have hf := gpos h_5 hf
        exact wX6_stuckSet_36 hLC hM (fX6_stuckSet_4 g fu) ih  _ _ _ _ _ hg0 hr1 hr2 hf _ _ _ hH (lv_sub hl [1, 2, 3] rfl)
      · have hf := gneg' h_5 hf
        rw [gvR_nn h_5] at hl
        refine lv_aload_n hM.fx.1 hM.fx.2.1 dX6_stuckSet_22 rfl (lv_at hl 1 rfl) ?_
        refine lv_aload_n hM.fx.1 hM.fx.2.1 dX6_stuckSet_23 rfl (lv_at hl 0 rfl) ?_
        obtain ⟨x_7, ex_7, hf⟩ := gbd hf
        refine r_go1 hH rfl (r_runS (As := [.ref (w.1 + a0), .ref (w.1 + a_4)]) hM hH cs_X6_34 (mX6_waitReason hLC hM.ns hg0 (hp_3 h_5) ex_7) rfl hl.1 rfl (Nat.le_of_ble_eq_true rfl) ⟨(Nat.le_of_ble_eq_true rfl), (Nat.le_of_ble_eq_true rfl)⟩ ⟨(Nat.le_of_ble_eq_true rfl), (Nat.le_of_ble_eq_true rfl)⟩ dX6_stuckSet_24) (fun hp_6 H locs hH => ?_)
        refine r_if_eq (tgt := 36) hM.fx hp_6 dX6_stuckSet_27 (by decide) (fun h_8 => ?_) (fun h_8 => ?_)
        · have hf := gpos h_8 hf
          exact wX6_stuckSet_36 hLC hM (fX6_stuckSet_4 g fu) ih  _ _ _ _ _ hg0 hr1 hr2 hf _ _ _ hH (lv_sub hl [1, 2, 3] rfl)
        · have hf := gneg' h_8 hf
          refine lv_iload_n hM.fx.1 hM.fx.2.1 dX6_stuckSet_30 rfl (lv_at hl 2 rfl) ?_
          refine lv_iconst (v := gi (1)) hM.fx.1 hM.fx.2.1 dX6_stuckSet_31 rfl ?_
          refine lv_iload_n hM.fx.1 hM.fx.2.1 dX6_stuckSet_32 rfl (lv_at hl 3 rfl) ?_
          refine r_ishl hM.fx dX6_stuckSet_33 ?_
          refine r_ior hM.fx dX6_stuckSet_34 ?_
          obtain ⟨x_9, ex_9, hf⟩ := gst_s hf
          refine W.eq (g2 := F0 m _ ls (.int (gi x_9) :: _)) (by rw [ex_9]) ?_
          have hx_9 : gRI x_9 := by rw [ex_9]; exact (gi_r _)
          refine lv_istore_n (lv' := [(1, .int (gi x_9)), (3, .ref (w.1 + a_4)), (0, .ref (w.1 + a0)), (2, .int (gi x2))]) hM.fx.1 hM.fx.2.1 dX6_stuckSet_35 rfl hl (by decide) rfl (fun ls hl => ?_)
          exact wX6_stuckSet_36 hLC hM (fX6_stuckSet_4 g fu) ih  _ _ _ _ _ hg0 hx_9 hr2 hf _ _ _ hH (lv_sub hl [2, 0, 3] rfl)
def fX6_stuckSet (g : Nat → Nat) (a0 : Nat) (M : gMem) : Option Int :=
  fX6_stuckSet_4 g gF a0 0 0 M
set_option maxHeartbeats 4000000 in
set_option maxRecDepth 100000 in
theorem mX6_stuckSet {w : gW} {n : Nat} {Rm : Nat → Nat → Nat} {g : Nat → Nat} (hLC : gLC g n Rm) {l : Launch} (hl9 : l.stackTraces = false) {a0 : Nat} {M : gMem} {r : Int} (hg0 : g a0 = 1) (hf : fX6_stuckSet g a0 M = some r) : gMT w n Rm l yX6_stuckSet cX6_stuckSet 4 (some .int) 4 127 0 0 [.ref (w.1 + a0)] M (.inr (some (.int (gi r)))) M (gRI r) := by
  unfold fX6_stuckSet at hf
  refine gMT.of hl9 (by decide +kernel) ((Nat.le_of_ble_eq_true rfl)) ?_
  intro p e s m below meth c hM hH ls hl
  have hM : gMC w p l s m ([.ref (w.1 + a0)] : List Value).toArray meth c cX6_stuckSet 4 RX6 (some .int) := hM
  have hl : lv_has ls 4 [(0, .ref (w.1 + a0))] := hl
  refine lv_iconst (v := gi (0)) hM.fx.1 hM.fx.2.1 dX6_stuckSet_0 rfl ?_
  refine lv_istore_n (lv' := [(1, .int (gi 0)), (0, .ref (w.1 + a0))]) hM.fx.1 hM.fx.2.1 dX6_stuckSet_1 rfl hl (by decide) rfl (fun ls hl => ?_)
  refine lv_iconst (v := gi (0)) hM.fx.1 hM.fx.2.1 dX6_stuckSet_2 rfl ?_
  refine lv_istore_n (lv' := [(2, .int (gi 0)), (1, .int (gi 0)), (0, .ref (w.1 + a0))]) hM.fx.1 hM.fx.2.1 dX6_stuckSet_3 rfl hl (by decide) rfl (fun ls hl => ?_)
  exact wX6_stuckSet_4 hLC hM  gF _ _ _ _ _ hg0 (gcR (k := 0) (by decide)) (gcR (k := 0) (by decide)) hf _ _ _ hH (lv_sub hl [2, 1, 0] rfl)
def fX7_addByte (g : Nat → Nat) (a0 : Nat) (x1 : Int) (M : gMem) : Option gMem :=
  if M a0 1 < 0 then (some M) else (if 2000 ≤ M a0 1 then (some M) else (if (0 : Int) ≤ M a0 1 ∧ (M a0 1 : Int) < 2000 then gst (gup M (a0 + 1) (M a0 1).toNat (gwb (gwb x1))) fun M_7 => gst (gup M_7 a0 1 (gwi (M_7 a0 1 + 1))) fun M_9 => some M_9 else none))
set_option maxHeartbeats 4000000 in
set_option maxRecDepth 100000 in
theorem mX7_addByte {w : gW} {n : Nat} {Rm : Nat → Nat → Nat} {g : Nat → Nat} (hLC : gLC g n Rm) {l : Launch} (hl9 : l.stackTraces = false) {a0 : Nat} {x1 : Int} {M : gMem} {r : gMem} (hg0 : g a0 = 7) (hr1 : gRI x1) (hf : fX7_addByte g a0 x1 M = some r) : gMT w n Rm l yX7_addByte cX7_addByte 2 none 1 60 0 0 [.ref (w.1 + a0), .int (gi x1)] M (.inr none) r True := by
  unfold fX7_addByte at hf
  refine gMT.of hl9 (by decide +kernel) ((Nat.le_of_ble_eq_true rfl)) ?_
  intro p e s m below meth c hM hH ls hl
  have hM : gMC w p l s m ([.ref (w.1 + a0), .int (gi x1)] : List Value).toArray meth c cX7_addByte 2 RX7 none := hM
  have hl : lv_has ls 2 [(0, .ref (w.1 + a0)), (1, .int (gi x1))] := hl
  refine lv_aload_n hM.fx.1 hM.fx.2.1 dX7_addByte_0 rfl (lv_at hl 0 rfl) ?_
  refine r_getI hM.fx hM.kf hH fl_X7_15 (hLC.in hg0 (by decide)) dX7_addByte_1 ?_
  have hr_1 := hH.2.2.i (hLC.in hg0 (by decide)).2.2 (by decide : glg 7 1 = false)
  refine r_if_lt (tgt := 40) hM.fx hr_1 dX7_addByte_4 (by decide) (fun h_2 => ?_) (fun h_2 => ?_)
  · have hf := gpos h_2 hf
    obtain rfl := Option.some.inj hf
    exact r_vret hM hH trivial ⟨(Nat.le_of_ble_eq_true rfl), (Nat.le_of_ble_eq_true rfl)⟩ dX7_addByte_40
  · have hf := gneg' h_2 hf
    refine lv_aload_n hM.fx.1 hM.fx.2.1 dX7_addByte_7 rfl (lv_at hl 0 rfl) ?_
    refine r_getI hM.fx hM.kf hH fl_X7_15 (hLC.in hg0 (by decide)) dX7_addByte_8 ?_
    have hr_3 := hH.2.2.i (hLC.in hg0 (by decide)).2.2 (by decide : glg 7 1 = false)
    refine lv_aload_n hM.fx.1 hM.fx.2.1 dX7_addByte_11 rfl (lv_at hl 0 rfl) ?_
    refine r_getR hM.fx hM.kf hH hLC fl_X7_9 hg0 gch_7_0 dX7_addByte_12 ?_
    refine r_alen hM.fx hM.kf hH 1 rfl (hLC.in (hLC.ch hg0 (by decide) gch_7_0) (by decide)) (⟨by decide, by decide⟩ : gAr 32017 1) rfl dX7_addByte_15 ?_
    refine r_icmp_ge (tgt := 40) hM.fx hr_3 (gcR (k := 2000) (by decide)) dX7_addByte_16 (by decide) (fun h_4 => ?_) (fun h_4 => ?_)
    · have hf := gpos h_4 hf
      obtain rfl := Option.some.inj hf
      exact r_vret hM hH trivial ⟨(Nat.le_of_ble_eq_true rfl), (Nat.le_of_ble_eq_true rfl)⟩ dX7_addByte_40
    · have hf := gneg' h_4 hf
      refine lv_aload_n hM.fx.1 hM.fx.2.1 dX7_addByte_19 rfl (lv_at hl 0 rfl) ?_
      refine r_getR hM.fx hM.kf hH hLC fl_X7_9 hg0 gch_7_0 dX7_addByte_20 ?_
      refine lv_aload_n hM.fx.1 hM.fx.2.1 dX7_addByte_23 rfl (lv_at hl 0 rfl) ?_
      refine r_getI hM.fx hM.kf hH fl_X7_15 (hLC.in hg0 (by decide)) dX7_addByte_24 ?_
      have hr_5 := hH.2.2.i (hLC.in hg0 (by decide)).2.2 (by decide : glg 7 1 = false)
      refine lv_iload_n hM.fx.1 hM.fx.2.1 dX7_addByte_27 rfl (lv_at hl 1 rfl) ?_
      refine r_i2b hM.fx dX7_addByte_28 ?_
      obtain ⟨g_6, hf⟩ := gif hf
      refine r_bast hM.fx hM.kf hH (hLC.in (hLC.ch hg0 (by decide) gch_7_0) (by decide)) (⟨by decide, by decide⟩ : gAr 32017 1) hr_5 g_6  dX7_addByte_29 (fun H locs hH => ?_)
      obtain ⟨M_7, eM_7, hf⟩ := gst_s hf
      rw [← eM_7] at hH
      refine lv_aload_n hM.fx.1 hM.fx.2.1 dX7_addByte_30 rfl (lv_at hl 0 rfl) ?_
      refine lv_dup hM.fx.1 hM.fx.2.1 dX7_addByte_31 rfl ?_
      refine r_getI hM.fx hM.kf hH fl_X7_15 (hLC.in hg0 (by decide)) dX7_addByte_32 ?_
      have hr_8 := hH.2.2.i (hLC.in hg0 (by decide)).2.2 (by decide : glg 7 1 = false)
      refine lv_iconst (v := gi (1)) hM.fx.1 hM.fx.2.1 dX7_addByte_35 rfl ?_
      refine r_iadd hM.fx dX7_addByte_36 ?_
      refine r_putI hM.fx hM.kf hH fp_X7_15 (hLC.in hg0 (by decide)) (gwi_r _) dX7_addByte_37 (fun H locs hH => ?_)
      obtain ⟨M_9, eM_9, hf⟩ := gst_s hf
      rw [← eM_9] at hH
      obtain rfl := Option.some.inj hf
      exact r_vret hM hH trivial ⟨(Nat.le_of_ble_eq_true rfl), (Nat.le_of_ble_eq_true rfl)⟩ dX7_addByte_40
def fX7_addNumber_76 (g : Nat → Nat) (k27 : Nat → Int → Int → Int → gMem → Option gMem) (a0 : Nat) (x2 : Int) (x3 : Int) (x4 : Int) (M : gMem) : Option gMem :=
  gst (gwi ((x4).tdiv 10)) fun x_1 => k27 a0 x2 x3 x_1 M
set_option maxHeartbeats 4000000 in
set_option maxRecDepth 100000 in
theorem wX7_addNumber_76 {w : gW} {n : Nat} {Rm : Nat → Nat → Nat} {g : Nat → Nat} (hLC : gLC g n Rm) {p : Program} {l : Launch} {e : Env} {s : State} {m : MethodId} {args : Array Value} {below : List Frame} {meth : Method} {c : Code} (hM : gMC w p l s m args meth c cX7_addNumber 6 RX7 none) (k27 : Nat → Int → Int → Int → gMem → Option gMem) (hk27 : ∀ (a0 : Nat) (x2 : Int) (x3 : Int) (x4 : Int) (M : gMem) (r : gMem) (hg0 : g a0 = 7) (hr2 : gRI x2) (hr3 : gRI x3) (hr4 : gRI x4) (hf : k27 a0 x2 x3 x4 M = some r) (H : Heap) (locs : List Loc) (ls : Array Slot) (hH : gH w n Rm M s H locs) (hl : lv_has ls 6 [(0, .ref (w.1 + a0)), (2, .int (gi x2)), (3, .int (gi x3)), (4, .int (gi x4))]), W p l e { frames := 2, cells := 0, slots := 0, locals := 81 } s m args below meth c H locs 0 0 (gQ w n Rm below args s 0 0 (.inr none) r True) (F0 m 27 ls [])) : ∀ (a0 : Nat) (x2 : Int) (x3 : Int) (x4 : Int) (M : gMem) (r : gMem) (hg0 : g a0 = 7) (hr2 : gRI x2) (hr3 : gRI x3) (hr4 : gRI x4) (hf : fX7_addNumber_76 g k27 a0 x2 x3 x4 M = some r) (H : Heap) (locs : List Loc) (ls : Array Slot) (hH : gH w n Rm M s H locs) (hl : lv_has ls 6 [(0, .ref (w.1 + a0)), (2, .int (gi x2)), (3, .int (gi x3)), (4, .int (gi x4))]), W p l e { frames := 2, cells := 0, slots := 0, locals := 81 } s m args below meth c H locs 0 0 (gQ w n Rm below args s 0 0 (.inr none) r True) (F0 m 76 ls []) := by
  intro a0 x2 x3 x4 M r hg0 hr2 hr3 hr4 hf H locs ls hH hl
  unfold fX7_addNumber_76 at hf
  refine lv_iload hM.fx.1 hM.fx.2.1 dX7_addNumber_76 (lv_at hl 3 rfl) ?_
  refine lv_bipush (v := gi (10)) hM.fx.1 hM.fx.2.1 dX7_addNumber_78 (by decide) ?_
  refine r_idiv hM.fx hr4 (gcR (k := 10) (by decide)) (by decide) dX7_addNumber_80 ?_
  obtain ⟨x_1, ex_1, hf⟩ := gst_s hf
  refine W.eq (g2 := F0 m _ ls (.int (gi x_1) :: _)) (by rw [ex_1]) ?_
  have hx_1 : gRI x_1 := by rw [ex_1]; exact (gwi_r _)
  refine lv_istore (lv' := [(4, .int (gi x_1)), (0, .ref (w.1 + a0)), (2, .int (gi x2)), (3, .int (gi x3))]) hM.fx.1 hM.fx.2.1 dX7_addNumber_81 hl (by decide) rfl (fun ls hl => ?_)
  refine lv_goto (tgt := 27) hM.fx.1 hM.fx.2.1 dX7_addNumber_83 (by decide) ?_
  exact hk27 _ _ _ _ _ _ hg0 hr2 hr3 hx_1 hf _ _ _ hH (lv_sub hl [1, 2, 3, 0] rfl)
def fX7_addNumber_62 (g : Nat → Nat) (k27 : Nat → Int → Int → Int → gMem → Option gMem) (a0 : Nat) (x2 : Int) (x4 : Int) (x5 : Int) (xs0 : Int) (M : gMem) : Option gMem :=
  if xs0 = 0 then (fX7_addNumber_76 g k27 a0 x2 xs0 x4 M) else ((fX7_addByte g a0 (gwi (48 + x5)) M).bind fun M_3 => fX7_addNumber_76 g k27 a0 x2 xs0 x4 M_3)
set_option maxHeartbeats 4000000 in
set_option maxRecDepth 100000 in
theorem wX7_addNumber_62 {w : gW} {n : Nat} {Rm : Nat → Nat → Nat} {g : Nat → Nat} (hLC : gLC g n Rm) {p : Program} {l : Launch} {e : Env} {s : State} {m : MethodId} {args : Array Value} {below : List Frame} {meth : Method} {c : Code} (hM : gMC w p l s m args meth c cX7_addNumber 6 RX7 none) (k27 : Nat → Int → Int → Int → gMem → Option gMem) (hk27 : ∀ (a0 : Nat) (x2 : Int) (x3 : Int) (x4 : Int) (M : gMem) (r : gMem) (hg0 : g a0 = 7) (hr2 : gRI x2) (hr3 : gRI x3) (hr4 : gRI x4) (hf : k27 a0 x2 x3 x4 M = some r) (H : Heap) (locs : List Loc) (ls : Array Slot) (hH : gH w n Rm M s H locs) (hl : lv_has ls 6 [(0, .ref (w.1 + a0)), (2, .int (gi x2)), (3, .int (gi x3)), (4, .int (gi x4))]), W p l e { frames := 2, cells := 0, slots := 0, locals := 81 } s m args below meth c H locs 0 0 (gQ w n Rm below args s 0 0 (.inr none) r True) (F0 m 27 ls [])) : ∀ (a0 : Nat) (x2 : Int) (x4 : Int) (x5 : Int) (xs0 : Int) (M : gMem) (r : gMem) (hg0 : g a0 = 7) (hr2 : gRI x2) (hr4 : gRI x4) (hr5 : gRI x5) (hrs0 : gRI xs0) (hf : fX7_addNumber_62 g k27 a0 x2 x4 x5 xs0 M = some r) (H : Heap) (locs : List Loc) (ls : Array Slot) (hH : gH w n Rm M s H locs) (hl : lv_has ls 6 [(0, .ref (w.1 + a0)), (2, .int (gi x2)), (4, .int (gi x4)), (5, .int (gi x5))]), W p l e { frames := 2, cells := 0, slots := 0, locals := 81 } s m args below meth c H locs 0 0 (gQ w n Rm below args s 0 0 (.inr none) r True) (F0 m 62 ls [.int (gi xs0)]) := by
  intro a0 x2 x4 x5 xs0 M r hg0 hr2 hr4 hr5 hrs0 hf H locs ls hH hl
  unfold fX7_addNumber_62 at hf
  refine lv_istore_n (lv' := [(3, .int (gi xs0)), (0, .ref (w.1 + a0)), (2, .int (gi x2)), (4, .int (gi x4)), (5, .int (gi x5))]) hM.fx.1 hM.fx.2.1 dX7_addNumber_62 rfl hl (by decide) rfl (fun ls hl => ?_)
  refine lv_iload_n hM.fx.1 hM.fx.2.1 dX7_addNumber_63 rfl (lv_at hl 0 rfl) ?_
  refine r_if_eq (tgt := 76) hM.fx hrs0 dX7_addNumber_64 (by decide) (fun h_1 => ?_) (fun h_1 => ?_)
  · have hf := gpos h_1 hf
    exact wX7_addNumber_76 hLC hM k27 hk27  _ _ _ _ _ _ hg0 hr2 hrs0 hr4 hf _ _ _ hH (lv_sub hl [1, 2, 0, 3] rfl)
  · have hf := gneg' h_1 hf
    refine lv_aload_n hM.fx.1 hM.fx.2.1 dX7_addNumber_67 rfl (lv_at hl 1 rfl) ?_
    refine lv_bipush (v := gi (48)) hM.fx.1 hM.fx.2.1 dX7_addNumber_68 (by decide) ?_
    refine lv_iload hM.fx.1 hM.fx.2.1 dX7_addNumber_70 (lv_at hl 4 rfl) ?_
    refine r_iadd hM.fx dX7_addNumber_72 ?_
    obtain ⟨M_3, eM_3, hf⟩ := gbd hf
    refine r_go0 hH rfl (r_runV (As := [.int (gi (gwi (48 + x5)))]) hM hH cv_X7_28 (mX7_addByte hLC hM.ns hg0 (gwi_r _) eM_3) (hLC.in hg0 (by decide)) (by decide) rfl rfl rfl hl.1 rfl (Nat.le_of_ble_eq_true rfl) ⟨(Nat.le_of_ble_eq_true rfl), (Nat.le_of_ble_eq_true rfl)⟩ ⟨(Nat.le_of_ble_eq_true rfl), (Nat.le_of_ble_eq_true rfl)⟩ dX7_addNumber_73) (fun hp_2 H locs hH => ?_)
    exact wX7_addNumber_76 hLC hM k27 hk27  _ _ _ _ _ _ hg0 hr2 hrs0 hr4 hf _ _ _ hH (lv_sub hl [1, 2, 0, 3] rfl)
def fX7_addNumber_57 (g : Nat → Nat) (k27 : Nat → Int → Int → Int → gMem → Option gMem) (a0 : Nat) (x2 : Int) (x4 : Int) (x5 : Int) (M : gMem) : Option gMem :=
  fX7_addNumber_62 g k27 a0 x2 x4 x5 1 M
set_option maxHeartbeats 4000000 in
set_option maxRecDepth 100000 in
theorem wX7_addNumber_57 {w : gW} {n : Nat} {Rm : Nat → Nat → Nat} {g : Nat → Nat} (hLC : gLC g n Rm) {p : Program} {l : Launch} {e : Env} {s : State} {m : MethodId} {args : Array Value} {below : List Frame} {meth : Method} {c : Code} (hM : gMC w p l s m args meth c cX7_addNumber 6 RX7 none) (k27 : Nat → Int → Int → Int → gMem → Option gMem) (hk27 : ∀ (a0 : Nat) (x2 : Int) (x3 : Int) (x4 : Int) (M : gMem) (r : gMem) (hg0 : g a0 = 7) (hr2 : gRI x2) (hr3 : gRI x3) (hr4 : gRI x4) (hf : k27 a0 x2 x3 x4 M = some r) (H : Heap) (locs : List Loc) (ls : Array Slot) (hH : gH w n Rm M s H locs) (hl : lv_has ls 6 [(0, .ref (w.1 + a0)), (2, .int (gi x2)), (3, .int (gi x3)), (4, .int (gi x4))]), W p l e { frames := 2, cells := 0, slots := 0, locals := 81 } s m args below meth c H locs 0 0 (gQ w n Rm below args s 0 0 (.inr none) r True) (F0 m 27 ls [])) : ∀ (a0 : Nat) (x2 : Int) (x4 : Int) (x5 : Int) (M : gMem) (r : gMem) (hg0 : g a0 = 7) (hr2 : gRI x2) (hr4 : gRI x4) (hr5 : gRI x5) (hf : fX7_addNumber_57 g k27 a0 x2 x4 x5 M = some r) (H : Heap) (locs : List Loc) (ls : Array Slot) (hH : gH w n Rm M s H locs) (hl : lv_has ls 6 [(0, .ref (w.1 + a0)), (2, .int (gi x2)), (4, .int (gi x4)), (5, .int (gi x5))]), W p l e { frames := 2, cells := 0, slots := 0, locals := 81 } s m args below meth c H locs 0 0 (gQ w n Rm below args s 0 0 (.inr none) r True) (F0 m 57 ls []) := by
  intro a0 x2 x4 x5 M r hg0 hr2 hr4 hr5 hf H locs ls hH hl
  unfold fX7_addNumber_57 at hf
  refine lv_iconst (v := gi (1)) hM.fx.1 hM.fx.2.1 dX7_addNumber_57 rfl ?_
  refine lv_goto (tgt := 62) hM.fx.1 hM.fx.2.1 dX7_addNumber_58 (by decide) ?_
  exact wX7_addNumber_62 hLC hM k27 hk27  _ _ _ _ _ _ _ hg0 hr2 hr4 hr5 (gcR (k := 1) (by decide)) hf _ _ _ hH hl
def fX7_addNumber_27 (g : Nat → Nat)  : Nat → Nat → Int → Int → Int → gMem → Option gMem
  | 0, _, _, _, _, _ => none
  | fu + 1, a0, x2, x3, x4, M => if x4 < 1 then (some M) else (if ¬ x4 = 0 then gst ((gwi ((x2).tdiv x4)).tmod 10) fun x_3 => if x3 = 0 then (if x_3 = 0 then (if x4 = 1 then (fX7_addNumber_57 g (fX7_addNumber_27 g fu) a0 x2 x4 x_3 M) else (fX7_addNumber_62 g (fX7_addNumber_27 g fu) a0 x2 x4 x_3 0 M)) else (fX7_addNumber_57 g (fX7_addNumber_27 g fu) a0 x2 x4 x_3 M)) else (fX7_addNumber_57 g (fX7_addNumber_27 g fu) a0 x2 x4 x_3 M) else none)
set_option maxHeartbeats 4000000 in
set_option maxRecDepth 100000 in
theorem wX7_addNumber_27 {w : gW} {n : Nat} {Rm : Nat → Nat → Nat} {g : Nat → Nat} (hLC : gLC g n Rm) {p : Program} {l : Launch} {e : Env} {s : State} {m : MethodId} {args : Array Value} {below : List Frame} {meth : Method} {c : Code} (hM : gMC w p l s m args meth c cX7_addNumber 6 RX7 none)  : ∀ (fu : Nat), ∀ (a0 : Nat) (x2 : Int) (x3 : Int) (x4 : Int) (M : gMem) (r : gMem) (hg0 : g a0 = 7) (hr2 : gRI x2) (hr3 : gRI x3) (hr4 : gRI x4) (hf : fX7_addNumber_27 g fu a0 x2 x3 x4 M = some r) (H : Heap) (locs : List Loc) (ls : Array Slot) (hH : gH w n Rm M s H locs) (hl : lv_has ls 6 [(0, .ref (w.1 + a0)), (2, .int (gi x2)), (3, .int (gi x3)), (4, .int (gi x4))]), W p l e { frames := 2, cells := 0, slots := 0, locals := 81 } s m args below meth c H locs 0 0 (gQ w n Rm below args s 0 0 (.inr none) r True) (F0 m 27 ls []) := by
  intro fu
  induction fu with
  | zero =>
    intro a0 x2 x3 x4 M r hg0 hr2 hr3 hr4 hf H locs ls hH hl
    exact absurd hf (by simp [fX7_addNumber_27])
  | succ fu ih =>
    intro a0 x2 x3 x4 M r hg0 hr2 hr3 hr4 hf H locs ls hH hl
    unfold fX7_addNumber_27 at hf
    refine lv_iload hM.fx.1 hM.fx.2.1 dX7_addNumber_27 (lv_at hl 3 rfl) ?_
    refine lv_iconst (v := gi (1)) hM.fx.1 hM.fx.2.1 dX7_addNumber_29 rfl ?_
    refine r_icmp_lt (tgt := 86) hM.fx hr4 (gcR (k := 1) (by decide)) dX7_addNumber_30 (by decide) (fun h_1 => ?_) (fun h_1 => ?_)
    · have hf := gpos h_1 hf
      obtain rfl := Option.some.inj hf
      exact r_vret hM hH trivial ⟨(Nat.le_of_ble_eq_true rfl), (Nat.le_of_ble_eq_true rfl)⟩ dX7_addNumber_86
    · have hf := gneg' h_1 hf
      refine lv_iload_n hM.fx.1 hM.fx.2.1 dX7_addNumber_33 rfl (lv_at hl 1 rfl) ?_
      refine lv_iload hM.fx.1 hM.fx.2.1 dX7_addNumber_34 (lv_at hl 3 rfl) ?_
      obtain ⟨g_2, hf⟩ := gif hf
      refine r_idiv hM.fx hr2 hr4 g_2 dX7_addNumber_36 ?_
      refine lv_bipush (v := gi (10)) hM.fx.1 hM.fx.2.1 dX7_addNumber_37 (by decide) ?_
      refine r_irem hM.fx (gwi_r _) (gcR (k := 10) (by decide)) (by decide) dX7_addNumber_39 ?_
      obtain ⟨x_3, ex_3, hf⟩ := gst_s hf
      refine W.eq (g2 := F0 m _ ls (.int (gi x_3) :: _)) (by rw [ex_3]) ?_
      have hx_3 : gRI x_3 := by rw [ex_3]; exact (gtmod_r (gwi_r _))
      refine lv_istore (lv' := [(5, .int (gi x_3)), (0, .ref (w.1 + a0)), (2, .int (gi x2)), (3, .int (gi x3)), (4, .int (gi x4))]) hM.fx.1 hM.fx.2.1 dX7_addNumber_40 hl (by decide) rfl (fun ls hl => ?_)
      refine lv_iload_n hM.fx.1 hM.fx.2.1 dX7_addNumber_42 rfl (lv_at hl 3 rfl) ?_
      refine r_if_ne (tgt := 57) hM.fx hr3 dX7_addNumber_43 (by decide) (fun h_4 => ?_) (fun h_4 => ?_)
      · have hf := gneg' h_4 hf
        exact wX7_addNumber_57 hLC hM (fX7_addNumber_27 g fu) ih  _ _ _ _ _ _ hg0 hr2 hr4 hx_3 hf _ _ _ hH (lv_sub hl [1, 2, 4, 0] rfl)
      · have hf := gpos h_4 hf
        refine lv_iload hM.fx.1 hM.fx.2.1 dX7_addNumber_46 (lv_at hl 0 rfl) ?_
        refine r_if_ne (tgt := 57) hM.fx hx_3 dX7_addNumber_48 (by decide) (fun h_5 => ?_) (fun h_5 => ?_)
        · have hf := gneg' h_5 hf
          exact wX7_addNumber_57 hLC hM (fX7_addNumber_27 g fu) ih  _ _ _ _ _ _ hg0 hr2 hr4 hx_3 hf _ _ _ hH (lv_sub hl [1, 2, 4, 0] rfl)
        · have hf := gpos h_5 hf
          refine lv_iload hM.fx.1 hM.fx.2.1 dX7_addNumber_51 (lv_at hl 4 rfl) ?_
          refine lv_iconst (v := gi (1)) hM.fx.1 hM.fx.2.1 dX7_addNumber_53 rfl ?_
          refine r_icmp_ne (tgt := 61) hM.fx hr4 (gcR (k := 1) (by decide)) dX7_addNumber_54 (by decide) (fun h_6 => ?_) (fun h_6 => ?_)
          · have hf := gneg' h_6 hf
            refine lv_iconst (v := gi (0)) hM.fx.1 hM.fx.2.1 dX7_addNumber_61 rfl ?_
            exact wX7_addNumber_62 hLC hM (fX7_addNumber_27 g fu) ih  _ _ _ _ _ _ _ hg0 hr2 hr4 hx_3 (gcR (k := 0) (by decide)) hf _ _ _ hH (lv_sub hl [1, 2, 4, 0] rfl)
          · have hf := gpos h_6 hf
            exact wX7_addNumber_57 hLC hM (fX7_addNumber_27 g fu) ih  _ _ _ _ _ _ hg0 hr2 hr4 hx_3 hf _ _ _ hH (lv_sub hl [1, 2, 4, 0] rfl)
def fX7_addNumber_20 (g : Nat → Nat)  (a0 : Nat) (xs0 : Int) (M : gMem) : Option gMem :=
  fX7_addNumber_27 g gF a0 xs0 0 100000 M
set_option maxHeartbeats 4000000 in
set_option maxRecDepth 100000 in
theorem wX7_addNumber_20 {w : gW} {n : Nat} {Rm : Nat → Nat → Nat} {g : Nat → Nat} (hLC : gLC g n Rm) {p : Program} {l : Launch} {e : Env} {s : State} {m : MethodId} {args : Array Value} {below : List Frame} {meth : Method} {c : Code} (hM : gMC w p l s m args meth c cX7_addNumber 6 RX7 none)  : ∀ (a0 : Nat) (xs0 : Int) (M : gMem) (r : gMem) (hg0 : g a0 = 7) (hrs0 : gRI xs0) (hf : fX7_addNumber_20 g a0 xs0 M = some r) (H : Heap) (locs : List Loc) (ls : Array Slot) (hH : gH w n Rm M s H locs) (hl : lv_has ls 6 [(0, .ref (w.1 + a0))]), W p l e { frames := 2, cells := 0, slots := 0, locals := 81 } s m args below meth c H locs 0 0 (gQ w n Rm below args s 0 0 (.inr none) r True) (F0 m 20 ls [.int (gi xs0)]) := by
  intro a0 xs0 M r hg0 hrs0 hf H locs ls hH hl
  unfold fX7_addNumber_20 at hf
  refine lv_istore_n (lv' := [(2, .int (gi xs0)), (0, .ref (w.1 + a0))]) hM.fx.1 hM.fx.2.1 dX7_addNumber_20 rfl hl (by decide) rfl (fun ls hl => ?_)
  refine lv_iconst (v := gi (0)) hM.fx.1 hM.fx.2.1 dX7_addNumber_21 rfl ?_
  refine lv_istore_n (lv' := [(3, .int (gi 0)), (2, .int (gi xs0)), (0, .ref (w.1 + a0))]) hM.fx.1 hM.fx.2.1 dX7_addNumber_22 rfl hl (by decide) rfl (fun ls hl => ?_)
  refine r_ldc (x := 100000) hM.fx gw_828 (by decide) dX7_addNumber_23 ?_
  refine lv_istore (lv' := [(4, .int (gi 100000)), (3, .int (gi 0)), (2, .int (gi xs0)), (0, .ref (w.1 + a0))]) hM.fx.1 hM.fx.2.1 dX7_addNumber_25 hl (by decide) rfl (fun ls hl => ?_)
  exact wX7_addNumber_27 hLC hM  gF _ _ _ _ _ _ hg0 hrs0 (gcR (k := 0) (by decide)) (gcR (k := 100000) (by decide)) hf _ _ _ hH (lv_sub hl [3, 2, 1, 0] rfl)
def fX7_addNumber_10 (g : Nat → Nat)  (a0 : Nat) (x1 : Int) (M : gMem) : Option gMem :=
  if 0 ≤ x1 then (fX7_addNumber_20 g a0 x1 M) else (fX7_addNumber_20 g a0 (gwi (-x1)) M)
set_option maxHeartbeats 4000000 in
set_option maxRecDepth 100000 in
theorem wX7_addNumber_10 {w : gW} {n : Nat} {Rm : Nat → Nat → Nat} {g : Nat → Nat} (hLC : gLC g n Rm) {p : Program} {l : Launch} {e : Env} {s : State} {m : MethodId} {args : Array Value} {below : List Frame} {meth : Method} {c : Code} (hM : gMC w p l s m args meth c cX7_addNumber 6 RX7 none)  : ∀ (a0 : Nat) (x1 : Int) (M : gMem) (r : gMem) (hg0 : g a0 = 7) (hr1 : gRI x1) (hf : fX7_addNumber_10 g a0 x1 M = some r) (H : Heap) (locs : List Loc) (ls : Array Slot) (hH : gH w n Rm M s H locs) (hl : lv_has ls 6 [(0, .ref (w.1 + a0)), (1, .int (gi x1))]), W p l e { frames := 2, cells := 0, slots := 0, locals := 81 } s m args below meth c H locs 0 0 (gQ w n Rm below args s 0 0 (.inr none) r True) (F0 m 10 ls []) := by
  intro a0 x1 M r hg0 hr1 hf H locs ls hH hl
  unfold fX7_addNumber_10 at hf
  refine lv_iload_n hM.fx.1 hM.fx.2.1 dX7_addNumber_10 rfl (lv_at hl 1 rfl) ?_
  refine r_if_ge (tgt := 19) hM.fx hr1 dX7_addNumber_11 (by decide) (fun h_1 => ?_) (fun h_1 => ?_)
  · have hf := gpos h_1 hf
    refine lv_iload_n hM.fx.1 hM.fx.2.1 dX7_addNumber_19 rfl (lv_at hl 1 rfl) ?_
    exact wX7_addNumber_20 hLC hM   _ _ _ _ hg0 hr1 hf _ _ _ hH (lv_sub hl [0] rfl)
  · have hf := gneg' h_1 hf
    refine lv_iload_n hM.fx.1 hM.fx.2.1 dX7_addNumber_14 rfl (lv_at hl 1 rfl) ?_
    refine r_ineg hM.fx dX7_addNumber_15 ?_
    refine lv_goto (tgt := 20) hM.fx.1 hM.fx.2.1 dX7_addNumber_16 (by decide) ?_
    exact wX7_addNumber_20 hLC hM   _ _ _ _ hg0 (gwi_r _) hf _ _ _ hH (lv_sub hl [0] rfl)
def fX7_addNumber (g : Nat → Nat) (a0 : Nat) (x1 : Int) (M : gMem) : Option gMem :=
  if 0 ≤ x1 then (fX7_addNumber_10 g a0 x1 M) else ((fX7_addByte g a0 45 M).bind fun M_3 => fX7_addNumber_10 g a0 x1 M_3)
set_option maxHeartbeats 4000000 in
set_option maxRecDepth 100000 in
theorem mX7_addNumber {w : gW} {n : Nat} {Rm : Nat → Nat → Nat} {g : Nat → Nat} (hLC : gLC g n Rm) {l : Launch} (hl9 : l.stackTraces = false) {a0 : Nat} {x1 : Int} {M : gMem} {r : gMem} (hg0 : g a0 = 7) (hr1 : gRI x1) (hf : fX7_addNumber g a0 x1 M = some r) : gMT w n Rm l yX7_addNumber cX7_addNumber 6 none 2 81 0 0 [.ref (w.1 + a0), .int (gi x1)] M (.inr none) r True := by
  unfold fX7_addNumber at hf
  refine gMT.of hl9 (by decide +kernel) ((Nat.le_of_ble_eq_true rfl)) ?_
  intro p e s m below meth c hM hH ls hl
  have hM : gMC w p l s m ([.ref (w.1 + a0), .int (gi x1)] : List Value).toArray meth c cX7_addNumber 6 RX7 none := hM
  have hl : lv_has ls 6 [(0, .ref (w.1 + a0)), (1, .int (gi x1))] := hl
  refine lv_iload_n hM.fx.1 hM.fx.2.1 dX7_addNumber_0 rfl (lv_at hl 1 rfl) ?_
  refine r_if_ge (tgt := 10) hM.fx hr1 dX7_addNumber_1 (by decide) (fun h_1 => ?_) (fun h_1 => ?_)
  · have hf := gpos h_1 hf
    exact wX7_addNumber_10 hLC hM   _ _ _ _ hg0 hr1 hf _ _ _ hH hl
  · have hf := gneg' h_1 hf
    refine lv_aload_n hM.fx.1 hM.fx.2.1 dX7_addNumber_4 rfl (lv_at hl 0 rfl) ?_
    refine lv_bipush (v := gi (45)) hM.fx.1 hM.fx.2.1 dX7_addNumber_5 (by decide) ?_
    obtain ⟨M_3, eM_3, hf⟩ := gbd hf
    refine r_go0 hH rfl (r_runV (As := [.int (gi 45)]) hM hH cv_X7_28 (mX7_addByte hLC hM.ns hg0 (gcR (k := 45) (by decide)) eM_3) (hLC.in hg0 (by decide)) (by decide) rfl rfl rfl hl.1 rfl (Nat.le_of_ble_eq_true rfl) ⟨(Nat.le_of_ble_eq_true rfl), (Nat.le_of_ble_eq_true rfl)⟩ ⟨(Nat.le_of_ble_eq_true rfl), (Nat.le_of_ble_eq_true rfl)⟩ dX7_addNumber_7) (fun hp_2 H locs hH => ?_)
    exact wX7_addNumber_10 hLC hM   _ _ _ _ hg0 hr1 hf _ _ _ hH hl
def fX7_addNumbers_30 (g : Nat → Nat) (k7 : Nat → Nat → Int → gMem → Option gMem) (a0 : Nat) (a1 : Nat) (x2 : Int) (M : gMem) : Option gMem :=
  gst (gwi (x2 + (-1))) fun x_1 => k7 a0 a1 x_1 M
set_option maxHeartbeats 4000000 in
set_option maxRecDepth 100000 in
theorem wX7_addNumbers_30 {w : gW} {n : Nat} {Rm : Nat → Nat → Nat} {g : Nat → Nat} (hLC : gLC g n Rm) {p : Program} {l : Launch} {e : Env} {s : State} {m : MethodId} {args : Array Value} {below : List Frame} {meth : Method} {c : Code} (hM : gMC w p l s m args meth c cX7_addNumbers 3 RX7 none) (k7 : Nat → Nat → Int → gMem → Option gMem) (hk7 : ∀ (a0 : Nat) (a1 : Nat) (x2 : Int) (M : gMem) (r : gMem) (hg0 : g a0 = 7) (hg1 : g a1 = 4) (hr2 : gRI x2) (hf : k7 a0 a1 x2 M = some r) (H : Heap) (locs : List Loc) (ls : Array Slot) (hH : gH w n Rm M s H locs) (hl : lv_has ls 3 [(0, .ref (w.1 + a0)), (1, .ref (w.1 + a1)), (2, .int (gi x2))]), W p l e { frames := 3, cells := 0, slots := 0, locals := 106 } s m args below meth c H locs 0 0 (gQ w n Rm below args s 0 0 (.inr none) r True) (F0 m 7 ls [])) : ∀ (a0 : Nat) (a1 : Nat) (x2 : Int) (M : gMem) (r : gMem) (hg0 : g a0 = 7) (hg1 : g a1 = 4) (hr2 : gRI x2) (hf : fX7_addNumbers_30 g k7 a0 a1 x2 M = some r) (H : Heap) (locs : List Loc) (ls : Array Slot) (hH : gH w n Rm M s H locs) (hl : lv_has ls 3 [(0, .ref (w.1 + a0)), (1, .ref (w.1 + a1)), (2, .int (gi x2))]), W p l e { frames := 3, cells := 0, slots := 0, locals := 106 } s m args below meth c H locs 0 0 (gQ w n Rm below args s 0 0 (.inr none) r True) (F0 m 30 ls []) := by
  intro a0 a1 x2 M r hg0 hg1 hr2 hf H locs ls hH hl
  unfold fX7_addNumbers_30 at hf
  obtain ⟨x_1, ex_1, hf⟩ := gst_s hf
  have hx_1 : gRI x_1 := by rw [ex_1]; exact gwi_r _
  refine r_iinc (lv' := [(2, .int (gi x_1)), (0, .ref (w.1 + a0)), (1, .ref (w.1 + a1))]) hM.fx dX7_addNumbers_30 hl (k := 2) rfl (by decide) (by rw [ex_1]; rfl) (fun ls hl => ?_)
  refine lv_goto (tgt := 7) hM.fx.1 hM.fx.2.1 dX7_addNumbers_33 (by decide) ?_
  exact hk7 _ _ _ _ _ hg0 hg1 hx_1 hf _ _ _ hH (lv_sub hl [1, 2, 0] rfl)
def fX7_addNumbers_7 (g : Nat → Nat)  : Nat → Nat → Nat → Int → gMem → Option gMem
  | 0, _, _, _, _ => none
  | fu + 1, a0, a1, x2, M => if x2 < 0 then (some M) else ((fX3_numberAt g a1 x2 M).bind fun x_3 => (fX7_addNumber g a0 x_3 M).bind fun M_5 => if x2 ≤ 0 then (fX7_addNumbers_30 g (fX7_addNumbers_7 g fu) a0 a1 x2 M_5) else ((fX7_addByte g a0 44 M_5).bind fun M_8 => fX7_addNumbers_30 g (fX7_addNumbers_7 g fu) a0 a1 x2 M_8))
set_option maxHeartbeats 4000000 in
set_option maxRecDepth 100000 in
theorem wX7_addNumbers_7 {w : gW} {n : Nat} {Rm : Nat → Nat → Nat} {g : Nat → Nat} (hLC : gLC g n Rm) {p : Program} {l : Launch} {e : Env} {s : State} {m : MethodId} {args : Array Value} {below : List Frame} {meth : Method} {c : Code} (hM : gMC w p l s m args meth c cX7_addNumbers 3 RX7 none)  : ∀ (fu : Nat), ∀ (a0 : Nat) (a1 : Nat) (x2 : Int) (M : gMem) (r : gMem) (hg0 : g a0 = 7) (hg1 : g a1 = 4) (hr2 : gRI x2) (hf : fX7_addNumbers_7 g fu a0 a1 x2 M = some r) (H : Heap) (locs : List Loc) (ls : Array Slot) (hH : gH w n Rm M s H locs) (hl : lv_has ls 3 [(0, .ref (w.1 + a0)), (1, .ref (w.1 + a1)), (2, .int (gi x2))]), W p l e { frames := 3, cells := 0, slots := 0, locals := 106 } s m args below meth c H locs 0 0 (gQ w n Rm below args s 0 0 (.inr none) r True) (F0 m 7 ls []) := by
  intro fu
  induction fu with
  | zero =>
    intro a0 a1 x2 M r hg0 hg1 hr2 hf H locs ls hH hl
    exact absurd hf (by simp [fX7_addNumbers_7])
  | succ fu ih =>
    intro a0 a1 x2 M r hg0 hg1 hr2 hf H locs ls hH hl
    unfold fX7_addNumbers_7 at hf
    refine lv_iload_n hM.fx.1 hM.fx.2.1 dX7_addNumbers_7 rfl (lv_at hl 2 rfl) ?_
    refine r_if_lt (tgt := 36) hM.fx hr2 dX7_addNumbers_8 (by decide) (fun h_1 => ?_) (fun h_1 => ?_)
    · have hf := gpos h_1 hf
      obtain rfl := Option.some.inj hf
      exact r_vret hM hH trivial ⟨(Nat.le_of_ble_eq_true rfl), (Nat.le_of_ble_eq_true rfl)⟩ dX7_addNumbers_36
    · have hf := gneg' h_1 hf
      refine lv_aload_n hM.fx.1 hM.fx.2.1 dX7_addNumbers_11 rfl (lv_at hl 0 rfl) ?_
      refine lv_aload_n hM.fx.1 hM.fx.2.1 dX7_addNumbers_12 rfl (lv_at hl 1 rfl) ?_
      refine lv_iload_n hM.fx.1 hM.fx.2.1 dX7_addNumbers_13 rfl (lv_at hl 2 rfl) ?_
      obtain ⟨x_3, ex_3, hf⟩ := gbd hf
      refine r_go1 hH rfl (r_runV (As := [.int (gi x2)]) hM hH cv_X7_64 (mX3_numberAt hLC hM.ns hg1 hr2 ex_3) (hLC.in hg1 (by decide)) (by decide) rfl rfl rfl hl.1 rfl (Nat.le_of_ble_eq_true rfl) ⟨(Nat.le_of_ble_eq_true rfl), (Nat.le_of_ble_eq_true rfl)⟩ ⟨(Nat.le_of_ble_eq_true rfl), (Nat.le_of_ble_eq_true rfl)⟩ dX7_addNumbers_14) (fun hp_2 H locs hH => ?_)
      obtain ⟨M_5, eM_5, hf⟩ := gbd hf
      refine r_go0 hH rfl (r_runV (As := [.int (gi x_3)]) hM hH cv_X7_58 (mX7_addNumber hLC hM.ns hg0 hp_2 eM_5) (hLC.in hg0 (by decide)) (by decide) rfl rfl rfl hl.1 rfl (Nat.le_of_ble_eq_true rfl) ⟨(Nat.le_of_ble_eq_true rfl), (Nat.le_of_ble_eq_true rfl)⟩ ⟨(Nat.le_of_ble_eq_true rfl), (Nat.le_of_ble_eq_true rfl)⟩ dX7_addNumbers_17) (fun hp_4 H locs hH => ?_)
      refine lv_iload_n hM.fx.1 hM.fx.2.1 dX7_addNumbers_20 rfl (lv_at hl 2 rfl) ?_
      refine r_if_le (tgt := 30) hM.fx hr2 dX7_addNumbers_21 (by decide) (fun h_6 => ?_) (fun h_6 => ?_)
      · have hf := gpos h_6 hf
        exact wX7_addNumbers_30 hLC hM (fX7_addNumbers_7 g fu) ih  _ _ _ _ _ hg0 hg1 hr2 hf _ _ _ hH hl
      · have hf := gneg' h_6 hf
        refine lv_aload_n hM.fx.1 hM.fx.2.1 dX7_addNumbers_24 rfl (lv_at hl 0 rfl) ?_
        refine lv_bipush (v := gi (44)) hM.fx.1 hM.fx.2.1 dX7_addNumbers_25 (by decide) ?_
        obtain ⟨M_8, eM_8, hf⟩ := gbd hf
        refine r_go0 hH rfl (r_runV (As := [.int (gi 44)]) hM hH cv_X7_28 (mX7_addByte hLC hM.ns hg0 (gcR (k := 44) (by decide)) eM_8) (hLC.in hg0 (by decide)) (by decide) rfl rfl rfl hl.1 rfl (Nat.le_of_ble_eq_true rfl) ⟨(Nat.le_of_ble_eq_true rfl), (Nat.le_of_ble_eq_true rfl)⟩ ⟨(Nat.le_of_ble_eq_true rfl), (Nat.le_of_ble_eq_true rfl)⟩ dX7_addNumbers_27) (fun hp_7 H locs hH => ?_)
        exact wX7_addNumbers_30 hLC hM (fX7_addNumbers_7 g fu) ih  _ _ _ _ _ hg0 hg1 hr2 hf _ _ _ hH hl
def fX7_addNumbers (g : Nat → Nat) (a0 : Nat) (a1 : Nat) (M : gMem) : Option gMem :=
  gst (gwi (M a1 1 - 1)) fun x_2 => fX7_addNumbers_7 g gF a0 a1 x_2 M
set_option maxHeartbeats 4000000 in
set_option maxRecDepth 100000 in
theorem mX7_addNumbers {w : gW} {n : Nat} {Rm : Nat → Nat → Nat} {g : Nat → Nat} (hLC : gLC g n Rm) {l : Launch} (hl9 : l.stackTraces = false) {a0 : Nat} {a1 : Nat} {M : gMem} {r : gMem} (hg0 : g a0 = 7) (hg1 : g a1 = 4) (hf : fX7_addNumbers g a0 a1 M = some r) : gMT w n Rm l yX7_addNumbers cX7_addNumbers 3 none 3 106 0 0 [.ref (w.1 + a0), .ref (w.1 + a1)] M (.inr none) r True := by
  unfold fX7_addNumbers at hf
  refine gMT.of hl9 (by decide +kernel) ((Nat.le_of_ble_eq_true rfl)) ?_
  intro p e s m below meth c hM hH ls hl
  have hM : gMC w p l s m ([.ref (w.1 + a0), .ref (w.1 + a1)] : List Value).toArray meth c cX7_addNumbers 3 RX7 none := hM
  have hl : lv_has ls 3 [(0, .ref (w.1 + a0)), (1, .ref (w.1 + a1))] := hl
  refine lv_aload_n hM.fx.1 hM.fx.2.1 dX7_addNumbers_0 rfl (lv_at hl 1 rfl) ?_
  refine r_getI hM.fx hM.kf hH fl_X7_61 (hLC.in hg1 (by decide)) dX7_addNumbers_1 ?_
  have hr_1 := hH.2.2.i (hLC.in hg1 (by decide)).2.2 (by decide : glg 4 1 = false)
  refine lv_iconst (v := gi (1)) hM.fx.1 hM.fx.2.1 dX7_addNumbers_4 rfl ?_
  refine r_isub hM.fx dX7_addNumbers_5 ?_
  obtain ⟨x_2, ex_2, hf⟩ := gst_s hf
  refine W.eq (g2 := F0 m _ ls (.int (gi x_2) :: _)) (by rw [ex_2]) ?_
  have hx_2 : gRI x_2 := by rw [ex_2]; exact (gwi_r _)
  refine lv_istore_n (lv' := [(2, .int (gi x_2)), (0, .ref (w.1 + a0)), (1, .ref (w.1 + a1))]) hM.fx.1 hM.fx.2.1 dX7_addNumbers_6 rfl hl (by decide) rfl (fun ls hl => ?_)
  exact wX7_addNumbers_7 hLC hM  gF _ _ _ _ _ hg0 hg1 hx_2 hf _ _ _ hH (lv_sub hl [1, 2, 0] rfl)
def fX7_addName_28 (g : Nat → Nat) (k3 : Nat → Int → Int → gMem → Option gMem) (a0 : Nat) (x1 : Int) (x3 : Int) (M : gMem) : Option gMem :=
  gst (gwi (x3 + (-8))) fun x_1 => k3 a0 x1 x_1 M
set_option maxHeartbeats 4000000 in
set_option maxRecDepth 100000 in
theorem wX7_addName_28 {w : gW} {n : Nat} {Rm : Nat → Nat → Nat} {g : Nat → Nat} (hLC : gLC g n Rm) {p : Program} {l : Launch} {e : Env} {s : State} {m : MethodId} {args : Array Value} {below : List Frame} {meth : Method} {c : Code} (hM : gMC w p l s m args meth c cX7_addName 5 RX7 none) (k3 : Nat → Int → Int → gMem → Option gMem) (hk3 : ∀ (a0 : Nat) (x1 : Int) (x3 : Int) (M : gMem) (r : gMem) (hg0 : g a0 = 7) (hr1 : gRL x1) (hr3 : gRI x3) (hf : k3 a0 x1 x3 M = some r) (H : Heap) (locs : List Loc) (ls : Array Slot) (hH : gH w n Rm M s H locs) (hl : lv_has ls 5 [(0, .ref (w.1 + a0)), (1, .long (gj x1)), (3, .int (gi x3))]), W p l e { frames := 2, cells := 0, slots := 0, locals := 81 } s m args below meth c H locs 0 0 (gQ w n Rm below args s 0 0 (.inr none) r True) (F0 m 3 ls [])) : ∀ (a0 : Nat) (x1 : Int) (x3 : Int) (M : gMem) (r : gMem) (hg0 : g a0 = 7) (hr1 : gRL x1) (hr3 : gRI x3) (hf : fX7_addName_28 g k3 a0 x1 x3 M = some r) (H : Heap) (locs : List Loc) (ls : Array Slot) (hH : gH w n Rm M s H locs) (hl : lv_has ls 5 [(0, .ref (w.1 + a0)), (1, .long (gj x1)), (3, .int (gi x3))]), W p l e { frames := 2, cells := 0, slots := 0, locals := 81 } s m args below meth c H locs 0 0 (gQ w n Rm below args s 0 0 (.inr none) r True) (F0 m 28 ls []) := by
  intro a0 x1 x3 M r hg0 hr1 hr3 hf H locs ls hH hl
  unfold fX7_addName_28 at hf
  obtain ⟨x_1, ex_1, hf⟩ := gst_s hf
  have hx_1 : gRI x_1 := by rw [ex_1]; exact gwi_r _
  refine r_iinc (lv' := [(3, .int (gi x_1)), (0, .ref (w.1 + a0)), (1, .long (gj x1))]) hM.fx dX7_addName_28 hl (k := 2) rfl (by decide) (by rw [ex_1]; rfl) (fun ls hl => ?_)
  refine lv_goto (tgt := 3) hM.fx.1 hM.fx.2.1 dX7_addName_31 (by decide) ?_
  exact hk3 _ _ _ _ _ hg0 hr1 hx_1 hf _ _ _ hH (lv_sub hl [1, 2, 0] rfl)
def fX7_addName_3 (g : Nat → Nat)  : Nat → Nat → Int → Int → gMem → Option gMem
  | 0, _, _, _, _ => none
  | fu + 1, a0, x1, x3, M => if x3 < 0 then (some M) else (gst (gwi (gland (glshr x1 x3) 255)) fun x_2 => if x_2 = 0 then (fX7_addName_28 g (fX7_addName_3 g fu) a0 x1 x3 M) else ((fX7_addByte g a0 x_2 M).bind fun M_5 => fX7_addName_28 g (fX7_addName_3 g fu) a0 x1 x3 M_5))
set_option maxHeartbeats 4000000 in
set_option maxRecDepth 100000 in
theorem wX7_addName_3 {w : gW} {n : Nat} {Rm : Nat → Nat → Nat} {g : Nat → Nat} (hLC : gLC g n Rm) {p : Program} {l : Launch} {e : Env} {s : State} {m : MethodId} {args : Array Value} {below : List Frame} {meth : Method} {c : Code} (hM : gMC w p l s m args meth c cX7_addName 5 RX7 none)  : ∀ (fu : Nat), ∀ (a0 : Nat) (x1 : Int) (x3 : Int) (M : gMem) (r : gMem) (hg0 : g a0 = 7) (hr1 : gRL x1) (hr3 : gRI x3) (hf : fX7_addName_3 g fu a0 x1 x3 M = some r) (H : Heap) (locs : List Loc) (ls : Array Slot) (hH : gH w n Rm M s H locs) (hl : lv_has ls 5 [(0, .ref (w.1 + a0)), (1, .long (gj x1)), (3, .int (gi x3))]), W p l e { frames := 2, cells := 0, slots := 0, locals := 81 } s m args below meth c H locs 0 0 (gQ w n Rm below args s 0 0 (.inr none) r True) (F0 m 3 ls []) := by
  intro fu
  induction fu with
  | zero =>
    intro a0 x1 x3 M r hg0 hr1 hr3 hf H locs ls hH hl
    exact absurd hf (by simp [fX7_addName_3])
  | succ fu ih =>
    intro a0 x1 x3 M r hg0 hr1 hr3 hf H locs ls hH hl
    unfold fX7_addName_3 at hf
    refine lv_iload_n hM.fx.1 hM.fx.2.1 dX7_addName_3 rfl (lv_at hl 2 rfl) ?_
    refine r_if_lt (tgt := 34) hM.fx hr3 dX7_addName_4 (by decide) (fun h_1 => ?_) (fun h_1 => ?_)
    · have hf := gpos h_1 hf
      obtain rfl := Option.some.inj hf
      exact r_vret hM hH trivial ⟨(Nat.le_of_ble_eq_true rfl), (Nat.le_of_ble_eq_true rfl)⟩ dX7_addName_34
    · have hf := gneg' h_1 hf
      refine lv_lload_n hM.fx.1 hM.fx.2.1 dX7_addName_7 rfl (lv_at hl 1 rfl) ?_
      refine lv_iload_n hM.fx.1 hM.fx.2.1 dX7_addName_8 rfl (lv_at hl 2 rfl) ?_
      refine r_lshr hM.fx dX7_addName_9 ?_
      refine r_ldc2 (x := 255) hM.fx gw_834 (by decide) dX7_addName_10 ?_
      refine r_land hM.fx dX7_addName_13 ?_
      refine r_l2i hM.fx dX7_addName_14 ?_
      obtain ⟨x_2, ex_2, hf⟩ := gst_s hf
      refine W.eq (g2 := F0 m _ ls (.int (gi x_2) :: _)) (by rw [ex_2]) ?_
      have hx_2 : gRI x_2 := by rw [ex_2]; exact (gwi_r _)
      refine lv_istore (lv' := [(4, .int (gi x_2)), (0, .ref (w.1 + a0)), (1, .long (gj x1)), (3, .int (gi x3))]) hM.fx.1 hM.fx.2.1 dX7_addName_15 hl (by decide) rfl (fun ls hl => ?_)
      refine lv_iload hM.fx.1 hM.fx.2.1 dX7_addName_17 (lv_at hl 0 rfl) ?_
      refine r_if_eq (tgt := 28) hM.fx hx_2 dX7_addName_19 (by decide) (fun h_3 => ?_) (fun h_3 => ?_)
      · have hf := gpos h_3 hf
        exact wX7_addName_28 hLC hM (fX7_addName_3 g fu) ih  _ _ _ _ _ hg0 hr1 hr3 hf _ _ _ hH (lv_sub hl [1, 2, 3] rfl)
      · have hf := gneg' h_3 hf
        refine lv_aload_n hM.fx.1 hM.fx.2.1 dX7_addName_22 rfl (lv_at hl 1 rfl) ?_
        refine lv_iload hM.fx.1 hM.fx.2.1 dX7_addName_23 (lv_at hl 0 rfl) ?_
        obtain ⟨M_5, eM_5, hf⟩ := gbd hf
        refine r_go0 hH rfl (r_runV (As := [.int (gi x_2)]) hM hH cv_X7_28 (mX7_addByte hLC hM.ns hg0 hx_2 eM_5) (hLC.in hg0 (by decide)) (by decide) rfl rfl rfl hl.1 rfl (Nat.le_of_ble_eq_true rfl) ⟨(Nat.le_of_ble_eq_true rfl), (Nat.le_of_ble_eq_true rfl)⟩ ⟨(Nat.le_of_ble_eq_true rfl), (Nat.le_of_ble_eq_true rfl)⟩ dX7_addName_25) (fun hp_4 H locs hH => ?_)
        exact wX7_addName_28 hLC hM (fX7_addName_3 g fu) ih  _ _ _ _ _ hg0 hr1 hr3 hf _ _ _ hH (lv_sub hl [1, 2, 3] rfl)
def fX7_addName (g : Nat → Nat) (a0 : Nat) (x1 : Int) (M : gMem) : Option gMem :=
  fX7_addName_3 g gF a0 x1 56 M
set_option maxHeartbeats 4000000 in
set_option maxRecDepth 100000 in
theorem mX7_addName {w : gW} {n : Nat} {Rm : Nat → Nat → Nat} {g : Nat → Nat} (hLC : gLC g n Rm) {l : Launch} (hl9 : l.stackTraces = false) {a0 : Nat} {x1 : Int} {M : gMem} {r : gMem} (hg0 : g a0 = 7) (hr1 : gRL x1) (hf : fX7_addName g a0 x1 M = some r) : gMT w n Rm l yX7_addName cX7_addName 5 none 2 81 0 0 [.ref (w.1 + a0), .long (gj x1)] M (.inr none) r True := by
  unfold fX7_addName at hf
  refine gMT.of hl9 (by decide +kernel) ((Nat.le_of_ble_eq_true rfl)) ?_
  intro p e s m below meth c hM hH ls hl
  have hM : gMC w p l s m ([.ref (w.1 + a0), .long (gj x1)] : List Value).toArray meth c cX7_addName 5 RX7 none := hM
  have hl : lv_has ls 5 [(0, .ref (w.1 + a0)), (1, .long (gj x1))] := hl
  refine lv_bipush (v := gi (56)) hM.fx.1 hM.fx.2.1 dX7_addName_0 (by decide) ?_
  refine lv_istore_n (lv' := [(3, .int (gi 56)), (0, .ref (w.1 + a0)), (1, .long (gj x1))]) hM.fx.1 hM.fx.2.1 dX7_addName_2 rfl hl (by decide) rfl (fun ls hl => ?_)
  exact wX7_addName_3 hLC hM  gF _ _ _ _ _ hg0 hr1 (gcR (k := 56) (by decide)) hf _ _ _ hH (lv_sub hl [1, 2, 0] rfl)
def fX7_writePiles_88 (g : Nat → Nat) (k7 : Nat → Nat → Int → gMem → Option gMem) (a0 : Nat) (a1 : Nat) (x2 : Int) (M : gMem) : Option gMem :=
  gst (gwi (x2 + 1)) fun x_1 => k7 a0 a1 x_1 M
set_option maxHeartbeats 4000000 in
set_option maxRecDepth 100000 in
theorem wX7_writePiles_88 {w : gW} {n : Nat} {Rm : Nat → Nat → Nat} {g : Nat → Nat} (hLC : gLC g n Rm) {p : Program} {l : Launch} {e : Env} {s : State} {m : MethodId} {args : Array Value} {below : List Frame} {meth : Method} {c : Code} (hM : gMC w p l s m args meth c cX7_writePiles 5 RX7 none) (k7 : Nat → Nat → Int → gMem → Option gMem) (hk7 : ∀ (a0 : Nat) (a1 : Nat) (x2 : Int) (M : gMem) (r : gMem) (hg0 : g a0 = 7) (hg1 : g a1 = 1) (hr2 : gRI x2) (hf : k7 a0 a1 x2 M = some r) (H : Heap) (locs : List Loc) (ls : Array Slot) (hH : gH w n Rm M s H locs) (hl : lv_has ls 5 [(0, .ref (w.1 + a0)), (1, .ref (w.1 + a1)), (2, .int (gi x2))]), W p l e { frames := 4, cells := 0, slots := 0, locals := 128 } s m args below meth c H locs 0 0 (gQ w n Rm below args s 0 0 (.inr none) r True) (F0 m 7 ls [])) : ∀ (a0 : Nat) (a1 : Nat) (x2 : Int) (M : gMem) (r : gMem) (hg0 : g a0 = 7) (hg1 : g a1 = 1) (hr2 : gRI x2) (hf : fX7_writePiles_88 g k7 a0 a1 x2 M = some r) (H : Heap) (locs : List Loc) (ls : Array Slot) (hH : gH w n Rm M s H locs) (hl : lv_has ls 5 [(0, .ref (w.1 + a0)), (1, .ref (w.1 + a1)), (2, .int (gi x2))]), W p l e { frames := 4, cells := 0, slots := 0, locals := 128 } s m args below meth c H locs 0 0 (gQ w n Rm below args s 0 0 (.inr none) r True) (F0 m 88 ls []) := by
  intro a0 a1 x2 M r hg0 hg1 hr2 hf H locs ls hH hl
  unfold fX7_writePiles_88 at hf
  obtain ⟨x_1, ex_1, hf⟩ := gst_s hf
  have hx_1 : gRI x_1 := by rw [ex_1]; exact gwi_r _
  refine r_iinc (lv' := [(2, .int (gi x_1)), (0, .ref (w.1 + a0)), (1, .ref (w.1 + a1))]) hM.fx dX7_writePiles_88 hl (k := 2) rfl (by decide) (by rw [ex_1]; rfl) (fun ls hl => ?_)
  refine lv_goto (tgt := 7) hM.fx.1 hM.fx.2.1 dX7_writePiles_91 (by decide) ?_
  exact hk7 _ _ _ _ _ hg0 hg1 hx_1 hf _ _ _ hH (lv_sub hl [1, 2, 0] rfl)
def fX7_writePiles_36 (g : Nat → Nat) (k7 : Nat → Nat → Int → gMem → Option gMem) (a0 : Nat) (a1 : Nat) (x2 : Int) (a3 : Nat) (M : gMem) : Option gMem :=
  (fX7_addNumbers g a0 a3 M).bind fun M_2 => (fX0_procAt g a1 (M_2 a3 3) M_2).bind fun a_5 => if a_5 = 0 then ((fX7_addByte g a0 35 M_2).bind fun M_8 => (fX7_addNumber g a0 (M_8 a3 4) M_8).bind fun M_11 => fX7_writePiles_88 g k7 a0 a1 x2 M_11) else ((fX7_addByte g a0 64 M_2).bind fun M_13 => (fX7_addName g a0 (M_13 a_5 3) M_13).bind fun M_16 => fX7_writePiles_88 g k7 a0 a1 x2 M_16)
set_option maxHeartbeats 4000000 in
set_option maxRecDepth 100000 in
theorem wX7_writePiles_36 {w : gW} {n : Nat} {Rm : Nat → Nat → Nat} {g : Nat → Nat} (hLC : gLC g n Rm) {p : Program} {l : Launch} {e : Env} {s : State} {m : MethodId} {args : Array Value} {below : List Frame} {meth : Method} {c : Code} (hM : gMC w p l s m args meth c cX7_writePiles 5 RX7 none) (k7 : Nat → Nat → Int → gMem → Option gMem) (hk7 : ∀ (a0 : Nat) (a1 : Nat) (x2 : Int) (M : gMem) (r : gMem) (hg0 : g a0 = 7) (hg1 : g a1 = 1) (hr2 : gRI x2) (hf : k7 a0 a1 x2 M = some r) (H : Heap) (locs : List Loc) (ls : Array Slot) (hH : gH w n Rm M s H locs) (hl : lv_has ls 5 [(0, .ref (w.1 + a0)), (1, .ref (w.1 + a1)), (2, .int (gi x2))]), W p l e { frames := 4, cells := 0, slots := 0, locals := 128 } s m args below meth c H locs 0 0 (gQ w n Rm below args s 0 0 (.inr none) r True) (F0 m 7 ls [])) : ∀ (a0 : Nat) (a1 : Nat) (x2 : Int) (a3 : Nat) (M : gMem) (r : gMem) (hg0 : g a0 = 7) (hg1 : g a1 = 1) (hr2 : gRI x2) (hg3 : g a3 = 4) (hf : fX7_writePiles_36 g k7 a0 a1 x2 a3 M = some r) (H : Heap) (locs : List Loc) (ls : Array Slot) (hH : gH w n Rm M s H locs) (hl : lv_has ls 5 [(0, .ref (w.1 + a0)), (1, .ref (w.1 + a1)), (2, .int (gi x2)), (3, .ref (w.1 + a3))]), W p l e { frames := 4, cells := 0, slots := 0, locals := 128 } s m args below meth c H locs 0 0 (gQ w n Rm below args s 0 0 (.inr none) r True) (F0 m 36 ls []) := by
  intro a0 a1 x2 a3 M r hg0 hg1 hr2 hg3 hf H locs ls hH hl
  unfold fX7_writePiles_36 at hf
  refine lv_aload_n hM.fx.1 hM.fx.2.1 dX7_writePiles_36 rfl (lv_at hl 0 rfl) ?_
  refine lv_aload_n hM.fx.1 hM.fx.2.1 dX7_writePiles_37 rfl (lv_at hl 3 rfl) ?_
  obtain ⟨M_2, eM_2, hf⟩ := gbd hf
  refine r_go0 hH rfl (r_runV (As := [.ref (w.1 + a3)]) hM hH cv_X7_32 (mX7_addNumbers hLC hM.ns hg0 hg3 eM_2) (hLC.in hg0 (by decide)) (by decide) rfl rfl rfl hl.1 rfl (Nat.le_of_ble_eq_true rfl) ⟨(Nat.le_of_ble_eq_true rfl), (Nat.le_of_ble_eq_true rfl)⟩ ⟨(Nat.le_of_ble_eq_true rfl), (Nat.le_of_ble_eq_true rfl)⟩ dX7_writePiles_38) (fun hp_1 H locs hH => ?_)
  refine lv_aload_n hM.fx.1 hM.fx.2.1 dX7_writePiles_41 rfl (lv_at hl 1 rfl) ?_
  refine lv_aload_n hM.fx.1 hM.fx.2.1 dX7_writePiles_42 rfl (lv_at hl 3 rfl) ?_
  refine r_getI hM.fx hM.kf hH fl_X7_36 (hLC.in hg3 (by decide)) dX7_writePiles_43 ?_
  have hr_3 := hH.2.2.i (hLC.in hg3 (by decide)).2.2 (by decide : glg 4 3 = false)
  obtain ⟨a_5, ea_5, hf⟩ := gbd hf
  refine r_go1 hH rfl (r_runV (As := [.int (gi (M_2 a3 3))]) hM hH cv_X7_41 (mX0_procAt hLC hM.ns hg1 hr_3 ea_5) (hLC.in hg1 (by decide)) (by decide) rfl rfl rfl hl.1 rfl (Nat.le_of_ble_eq_true rfl) ⟨(Nat.le_of_ble_eq_true rfl), (Nat.le_of_ble_eq_true rfl)⟩ ⟨(Nat.le_of_ble_eq_true rfl), (Nat.le_of_ble_eq_true rfl)⟩ dX7_writePiles_46) (fun hp_4 H locs hH => ?_)
  refine r_astoreV (lv' := [(4, gvR w a_5), (0, .ref (w.1 + a0)), (1, .ref (w.1 + a1)), (2, .int (gi x2)), (3, .ref (w.1 + a3))]) hM.fx dX7_writePiles_49 hl (by decide) rfl (fun ls hl => ?_)
  refine r_aloadV hM.fx dX7_writePiles_51 (lv_at hl 0 rfl) ?_
  refine r_ifnull (tgt := 74) hM.fx dX7_writePiles_53 (by decide) (fun h_6 => ?_) (fun h_6 => ?_)
  · have hf := gpos h_6 hf
    refine lv_aload_n hM.fx.1 hM.fx.2.1 dX7_writePiles_74 rfl (lv_at hl 1 rfl) ?_
    refine lv_bipush (v := gi (35)) hM.fx.1 hM.fx.2.1 dX7_writePiles_75 (by decide) ?_
    obtain ⟨M_8, eM_8, hf⟩ := gbd hf
    refine r_go0 hH rfl (r_runV (As := [.int (gi 35)]) hM hH cv_X7_28 (mX7_addByte hLC hM.ns hg0 (gcR (k := 35) (by decide)) eM_8) (hLC.in hg0 (by decide)) (by decide) rfl rfl rfl hl.1 rfl (Nat.le_of_ble_eq_true rfl) ⟨(Nat.le_of_ble_eq_true rfl), (Nat.le_of_ble_eq_true rfl)⟩ ⟨(Nat.le_of_ble_eq_true rfl), (Nat.le_of_ble_eq_true rfl)⟩ dX7_writePiles_77) (fun hp_7 H locs hH => ?_)
    refine lv_aload_n hM.fx.1 hM.fx.2.1 dX7_writePiles_80 rfl (lv_at hl 1 rfl) ?_
    refine lv_aload_n hM.fx.1 hM.fx.2.1 dX7_writePiles_81 rfl (lv_at hl 4 rfl) ?_
    refine r_getI hM.fx hM.kf hH fl_X7_55 (hLC.in hg3 (by decide)) dX7_writePiles_82 ?_
    have hr_9 := hH.2.2.i (hLC.in hg3 (by decide)).2.2 (by decide : glg 4 4 = false)
    obtain ⟨M_11, eM_11, hf⟩ := gbd hf
    refine r_go0 hH rfl (r_runV (As := [.int (gi (M_8 a3 4))]) hM hH cv_X7_58 (mX7_addNumber hLC hM.ns hg0 hr_9 eM_11) (hLC.in hg0 (by decide)) (by decide) rfl rfl rfl hl.1 rfl (Nat.le_of_ble_eq_true rfl) ⟨(Nat.le_of_ble_eq_true rfl), (Nat.le_of_ble_eq_true rfl)⟩ ⟨(Nat.le_of_ble_eq_true rfl), (Nat.le_of_ble_eq_true rfl)⟩ dX7_writePiles_85) (fun hp_10 H locs hH => ?_)
    exact wX7_writePiles_88 hLC hM k7 hk7  _ _ _ _ _ hg0 hg1 hr2 hf _ _ _ hH (lv_sub hl [1, 2, 3] rfl)
  · have hf := gneg' h_6 hf
    rw [gvR_nn h_6] at hl
    refine lv_aload_n hM.fx.1 hM.fx.2.1 dX7_writePiles_56 rfl (lv_at hl 1 rfl) ?_
    refine lv_bipush (v := gi (64)) hM.fx.1 hM.fx.2.1 dX7_writePiles_57 (by decide) ?_
    obtain ⟨M_13, eM_13, hf⟩ := gbd hf
    refine r_go0 hH rfl (r_runV (As := [.int (gi 64)]) hM hH cv_X7_28 (mX7_addByte hLC hM.ns hg0 (gcR (k := 64) (by decide)) eM_13) (hLC.in hg0 (by decide)) (by decide) rfl rfl rfl hl.1 rfl (Nat.le_of_ble_eq_true rfl) ⟨(Nat.le_of_ble_eq_true rfl), (Nat.le_of_ble_eq_true rfl)⟩ ⟨(Nat.le_of_ble_eq_true rfl), (Nat.le_of_ble_eq_true rfl)⟩ dX7_writePiles_59) (fun hp_12 H locs hH => ?_)
    refine lv_aload_n hM.fx.1 hM.fx.2.1 dX7_writePiles_62 rfl (lv_at hl 1 rfl) ?_
    refine lv_aload hM.fx.1 hM.fx.2.1 dX7_writePiles_63 (lv_at hl 0 rfl) ?_
    refine r_getL hM.fx hM.kf hH fl_X7_45 (hLC.in (hp_4 h_6) (by decide)) dX7_writePiles_65 ?_
    have hr_14 := hH.2.2.l (hLC.in (hp_4 h_6) (by decide)).2.2 (by decide : glg 5 3 = true)
    obtain ⟨M_16, eM_16, hf⟩ := gbd hf
    refine r_go0 hH rfl (r_runV (As := [.long (gj (M_13 a_5 3))]) hM hH cv_X7_51 (mX7_addName hLC hM.ns hg0 hr_14 eM_16) (hLC.in hg0 (by decide)) (by decide) rfl rfl rfl hl.1 rfl (Nat.le_of_ble_eq_true rfl) ⟨(Nat.le_of_ble_eq_true rfl), (Nat.le_of_ble_eq_true rfl)⟩ ⟨(Nat.le_of_ble_eq_true rfl), (Nat.le_of_ble_eq_true rfl)⟩ dX7_writePiles_68) (fun hp_15 H locs hH => ?_)
    refine lv_goto (tgt := 88) hM.fx.1 hM.fx.2.1 dX7_writePiles_71 (by decide) ?_
    exact wX7_writePiles_88 hLC hM k7 hk7  _ _ _ _ _ hg0 hg1 hr2 hf _ _ _ hH (lv_sub hl [1, 2, 3] rfl)
def fX7_writePiles_7 (g : Nat → Nat)  : Nat → Nat → Nat → Int → gMem → Option gMem
  | 0, _, _, _, _ => none
  | fu + 1, a0, a1, x2, M => if M a1 6 ≤ x2 then (some M) else ((fX0_pileAt g a1 x2 M).bind fun a_4 => if a_4 = 0 then (some M) else (if x2 ≤ 0 then (fX7_writePiles_36 g (fX7_writePiles_7 g fu) a0 a1 x2 a_4 M) else ((fX7_addByte g a0 32 M).bind fun M_8 => fX7_writePiles_36 g (fX7_writePiles_7 g fu) a0 a1 x2 a_4 M_8)))
set_option maxHeartbeats 4000000 in
set_option maxRecDepth 100000 in
theorem wX7_writePiles_7 {w : gW} {n : Nat} {Rm : Nat → Nat → Nat} {g : Nat → Nat} (hLC : gLC g n Rm) {p : Program} {l : Launch} {e : Env} {s : State} {m : MethodId} {args : Array Value} {below : List Frame} {meth : Method} {c : Code} (hM : gMC w p l s m args meth c cX7_writePiles 5 RX7 none)  : ∀ (fu : Nat), ∀ (a0 : Nat) (a1 : Nat) (x2 : Int) (M : gMem) (r : gMem) (hg0 : g a0 = 7) (hg1 : g a1 = 1) (hr2 : gRI x2) (hf : fX7_writePiles_7 g fu a0 a1 x2 M = some r) (H : Heap) (locs : List Loc) (ls : Array Slot) (hH : gH w n Rm M s H locs) (hl : lv_has ls 5 [(0, .ref (w.1 + a0)), (1, .ref (w.1 + a1)), (2, .int (gi x2))]), W p l e { frames := 4, cells := 0, slots := 0, locals := 128 } s m args below meth c H locs 0 0 (gQ w n Rm below args s 0 0 (.inr none) r True) (F0 m 7 ls []) := by
  intro fu
  induction fu with
  | zero =>
    intro a0 a1 x2 M r hg0 hg1 hr2 hf H locs ls hH hl
    exact absurd hf (by simp [fX7_writePiles_7])
  | succ fu ih =>
    intro a0 a1 x2 M r hg0 hg1 hr2 hf H locs ls hH hl
    unfold fX7_writePiles_7 at hf
    refine lv_iload_n hM.fx.1 hM.fx.2.1 dX7_writePiles_7 rfl (lv_at hl 2 rfl) ?_
    refine lv_aload_n hM.fx.1 hM.fx.2.1 dX7_writePiles_8 rfl (lv_at hl 1 rfl) ?_
    refine r_getI hM.fx hM.kf hH fl_X7_19 (hLC.in hg1 (by decide)) dX7_writePiles_9 ?_
    have hr_1 := hH.2.2.i (hLC.in hg1 (by decide)).2.2 (by decide : glg 1 6 = false)
    refine r_icmp_ge (tgt := 94) hM.fx hr2 hr_1 dX7_writePiles_12 (by decide) (fun h_2 => ?_) (fun h_2 => ?_)
    · have hf := gpos h_2 hf
      obtain rfl := Option.some.inj hf
      exact r_vret hM hH trivial ⟨(Nat.le_of_ble_eq_true rfl), (Nat.le_of_ble_eq_true rfl)⟩ dX7_writePiles_94
    · have hf := gneg' h_2 hf
      refine lv_aload_n hM.fx.1 hM.fx.2.1 dX7_writePiles_15 rfl (lv_at hl 1 rfl) ?_
      refine lv_iload_n hM.fx.1 hM.fx.2.1 dX7_writePiles_16 rfl (lv_at hl 2 rfl) ?_
      obtain ⟨a_4, ea_4, hf⟩ := gbd hf
      refine r_go1 hH rfl (r_runV (As := [.int (gi x2)]) hM hH cv_X7_24 (mX0_pileAt hLC hM.ns hg1 hr2 ea_4) (hLC.in hg1 (by decide)) (by decide) rfl rfl rfl hl.1 rfl (Nat.le_of_ble_eq_true rfl) ⟨(Nat.le_of_ble_eq_true rfl), (Nat.le_of_ble_eq_true rfl)⟩ ⟨(Nat.le_of_ble_eq_true rfl), (Nat.le_of_ble_eq_true rfl)⟩ dX7_writePiles_17) (fun hp_3 H locs hH => ?_)
      refine r_astore_nV (lv' := [(3, gvR w a_4), (0, .ref (w.1 + a0)), (1, .ref (w.1 + a1)), (2, .int (gi x2))]) hM.fx dX7_writePiles_20 rfl hl (by decide) rfl (fun ls hl => ?_)
      refine r_aload_nV hM.fx dX7_writePiles_21 rfl (lv_at hl 0 rfl) ?_
      refine r_ifnonnull (tgt := 26) hM.fx dX7_writePiles_22 (by decide) (fun h_5 => ?_) (fun h_5 => ?_)
      · have hf := gneg' h_5 hf
        rw [gvR_nn h_5] at hl
        refine lv_iload_n hM.fx.1 hM.fx.2.1 dX7_writePiles_26 rfl (lv_at hl 3 rfl) ?_
        refine r_if_le (tgt := 36) hM.fx hr2 dX7_writePiles_27 (by decide) (fun h_6 => ?_) (fun h_6 => ?_)
        · have hf := gpos h_6 hf
          exact wX7_writePiles_36 hLC hM (fX7_writePiles_7 g fu) ih  _ _ _ _ _ _ hg0 hg1 hr2 (hp_3 h_5) hf _ _ _ hH (lv_sub hl [1, 2, 3, 0] rfl)
        · have hf := gneg' h_6 hf
          refine lv_aload_n hM.fx.1 hM.fx.2.1 dX7_writePiles_30 rfl (lv_at hl 1 rfl) ?_
          refine lv_bipush (v := gi (32)) hM.fx.1 hM.fx.2.1 dX7_writePiles_31 (by decide) ?_
          obtain ⟨M_8, eM_8, hf⟩ := gbd hf
          refine r_go0 hH rfl (r_runV (As := [.int (gi 32)]) hM hH cv_X7_28 (mX7_addByte hLC hM.ns hg0 (gcR (k := 32) (by decide)) eM_8) (hLC.in hg0 (by decide)) (by decide) rfl rfl rfl hl.1 rfl (Nat.le_of_ble_eq_true rfl) ⟨(Nat.le_of_ble_eq_true rfl), (Nat.le_of_ble_eq_true rfl)⟩ ⟨(Nat.le_of_ble_eq_true rfl), (Nat.le_of_ble_eq_true rfl)⟩ dX7_writePiles_33) (fun hp_7 H locs hH => ?_)
          exact wX7_writePiles_36 hLC hM (fX7_writePiles_7 g fu) ih  _ _ _ _ _ _ hg0 hg1 hr2 (hp_3 h_5) hf _ _ _ hH (lv_sub hl [1, 2, 3, 0] rfl)
      · have hf := gpos h_5 hf
        obtain rfl := Option.some.inj hf
        exact r_vret hM hH trivial ⟨(Nat.le_of_ble_eq_true rfl), (Nat.le_of_ble_eq_true rfl)⟩ dX7_writePiles_25
def fX7_writePiles (g : Nat → Nat) (a0 : Nat) (a1 : Nat) (M : gMem) : Option gMem :=
  gst (gup M a0 1 0) fun M_1 => fX7_writePiles_7 g gF a0 a1 0 M_1
set_option maxHeartbeats 4000000 in
set_option maxRecDepth 100000 in
theorem mX7_writePiles {w : gW} {n : Nat} {Rm : Nat → Nat → Nat} {g : Nat → Nat} (hLC : gLC g n Rm) {l : Launch} (hl9 : l.stackTraces = false) {a0 : Nat} {a1 : Nat} {M : gMem} {r : gMem} (hg0 : g a0 = 7) (hg1 : g a1 = 1) (hf : fX7_writePiles g a0 a1 M = some r) : gMT w n Rm l yX7_writePiles cX7_writePiles 5 none 4 128 0 0 [.ref (w.1 + a0), .ref (w.1 + a1)] M (.inr none) r True := by
  unfold fX7_writePiles at hf
  refine gMT.of hl9 (by decide +kernel) ((Nat.le_of_ble_eq_true rfl)) ?_
  intro p e s m below meth c hM hH ls hl
  have hM : gMC w p l s m ([.ref (w.1 + a0), .ref (w.1 + a1)] : List Value).toArray meth c cX7_writePiles 5 RX7 none := hM
  have hl : lv_has ls 5 [(0, .ref (w.1 + a0)), (1, .ref (w.1 + a1))] := hl
  refine lv_aload_n hM.fx.1 hM.fx.2.1 dX7_writePiles_0 rfl (lv_at hl 0 rfl) ?_
  refine lv_iconst (v := gi (0)) hM.fx.1 hM.fx.2.1 dX7_writePiles_1 rfl ?_
  refine r_putI hM.fx hM.kf hH fp_X7_15 (hLC.in hg0 (by decide)) (gcR (k := 0) (by decide)) dX7_writePiles_2 (fun H locs hH => ?_)
  obtain ⟨M_1, eM_1, hf⟩ := gst_s hf
  rw [← eM_1] at hH
  refine lv_iconst (v := gi (0)) hM.fx.1 hM.fx.2.1 dX7_writePiles_5 rfl ?_
  refine lv_istore_n (lv' := [(2, .int (gi 0)), (0, .ref (w.1 + a0)), (1, .ref (w.1 + a1))]) hM.fx.1 hM.fx.2.1 dX7_writePiles_6 rfl hl (by decide) rfl (fun ls hl => ?_)
  exact wX7_writePiles_7 hLC hM  gF _ _ _ _ _ hg0 hg1 (gcR (k := 0) (by decide)) hf _ _ _ hH (lv_sub hl [1, 2, 0] rfl)
def fX8_bytesIn_22 (g : Nat → Nat) (k5 : Int → Int → Int → Option Int) (x0 : Int) (x1 : Int) (x2 : Int) : Option Int :=
  gst (gwi (x2 + (-8))) fun x_1 => k5 x0 x1 x_1
set_option maxHeartbeats 4000000 in
set_option maxRecDepth 100000 in
theorem wX8_bytesIn_22 {w : gW} {n : Nat} {Rm : Nat → Nat → Nat} {g : Nat → Nat} (hLC : gLC g n Rm) {p : Program} {l : Launch} {e : Env} {s : State} {m : MethodId} {args : Array Value} {below : List Frame} {meth : Method} {c : Code} (hM : gMC w p l s m args meth c cX8_bytesIn 3 RX8 (some .int)) (k5 : Int → Int → Int → Option Int) (hk5 : ∀ (x0 : Int) (x1 : Int) (x2 : Int) (M : gMem) (r : Int) (hr0 : gRI x0) (hr1 : gRI x1) (hr2 : gRI x2) (hf : k5 x0 x1 x2 = some r) (H : Heap) (locs : List Loc) (ls : Array Slot) (hH : gH w n Rm M s H locs) (hl : lv_has ls 3 [(0, .int (gi x0)), (1, .int (gi x1)), (2, .int (gi x2))]), W p l e { frames := 1, cells := 0, slots := 0, locals := 60 } s m args below meth c H locs 0 0 (gQ w n Rm below args s 0 0 (.inr (some (.int (gi r)))) M (gRI r)) (F0 m 5 ls [])) : ∀ (x0 : Int) (x1 : Int) (x2 : Int) (M : gMem) (r : Int) (hr0 : gRI x0) (hr1 : gRI x1) (hr2 : gRI x2) (hf : fX8_bytesIn_22 g k5 x0 x1 x2 = some r) (H : Heap) (locs : List Loc) (ls : Array Slot) (hH : gH w n Rm M s H locs) (hl : lv_has ls 3 [(0, .int (gi x0)), (1, .int (gi x1)), (2, .int (gi x2))]), W p l e { frames := 1, cells := 0, slots := 0, locals := 60 } s m args below meth c H locs 0 0 (gQ w n Rm below args s 0 0 (.inr (some (.int (gi r)))) M (gRI r)) (F0 m 22 ls []) := by
  intro x0 x1 x2 M r hr0 hr1 hr2 hf H locs ls hH hl
  unfold fX8_bytesIn_22 at hf
  obtain ⟨x_1, ex_1, hf⟩ := gst_s hf
  have hx_1 : gRI x_1 := by rw [ex_1]; exact gwi_r _
  refine r_iinc (lv' := [(2, .int (gi x_1)), (0, .int (gi x0)), (1, .int (gi x1))]) hM.fx dX8_bytesIn_22 hl (k := 2) rfl (by decide) (by rw [ex_1]; rfl) (fun ls hl => ?_)
  refine lv_goto (tgt := 5) hM.fx.1 hM.fx.2.1 dX8_bytesIn_25 (by decide) ?_
  exact hk5 _ _ _ _ _ hr0 hr1 hx_1 hf _ _ _ hH (lv_sub hl [1, 2, 0] rfl)
def fX8_bytesIn_5 (g : Nat → Nat)  : Nat → Int → Int → Int → Option Int
  | 0, _, _, _ => none
  | fu + 1, x0, x1, x2 => if x2 < 0 then (some x1) else (if gand (gshr x0 x2) 255 = 0 then (fX8_bytesIn_22 g (fX8_bytesIn_5 g fu) x0 x1 x2) else (gst (gwi (x1 + 1)) fun x_3 => fX8_bytesIn_22 g (fX8_bytesIn_5 g fu) x0 x_3 x2))
set_option maxHeartbeats 4000000 in
set_option maxRecDepth 100000 in
theorem wX8_bytesIn_5 {w : gW} {n : Nat} {Rm : Nat → Nat → Nat} {g : Nat → Nat} (hLC : gLC g n Rm) {p : Program} {l : Launch} {e : Env} {s : State} {m : MethodId} {args : Array Value} {below : List Frame} {meth : Method} {c : Code} (hM : gMC w p l s m args meth c cX8_bytesIn 3 RX8 (some .int))  : ∀ (fu : Nat), ∀ (x0 : Int) (x1 : Int) (x2 : Int) (M : gMem) (r : Int) (hr0 : gRI x0) (hr1 : gRI x1) (hr2 : gRI x2) (hf : fX8_bytesIn_5 g fu x0 x1 x2 = some r) (H : Heap) (locs : List Loc) (ls : Array Slot) (hH : gH w n Rm M s H locs) (hl : lv_has ls 3 [(0, .int (gi x0)), (1, .int (gi x1)), (2, .int (gi x2))]), W p l e { frames := 1, cells := 0, slots := 0, locals := 60 } s m args below meth c H locs 0 0 (gQ w n Rm below args s 0 0 (.inr (some (.int (gi r)))) M (gRI r)) (F0 m 5 ls []) := by
  intro fu
  induction fu with
  | zero =>
    intro x0 x1 x2 M r hr0 hr1 hr2 hf H locs ls hH hl
    exact absurd hf (by simp [fX8_bytesIn_5])
  | succ fu ih =>
    intro x0 x1 x2 M r hr0 hr1 hr2 hf H locs ls hH hl
    unfold fX8_bytesIn_5 at hf
    refine lv_iload_n hM.fx.1 hM.fx.2.1 dX8_bytesIn_5 rfl (lv_at hl 2 rfl) ?_
    refine r_if_lt (tgt := 28) hM.fx hr2 dX8_bytesIn_6 (by decide) (fun h_1 => ?_) (fun h_1 => ?_)
    · have hf := gpos h_1 hf
      refine lv_iload_n hM.fx.1 hM.fx.2.1 dX8_bytesIn_28 rfl (lv_at hl 1 rfl) ?_
      obtain rfl := Option.some.inj hf
      exact r_iret hM hH hr1 ⟨(Nat.le_of_ble_eq_true rfl), (Nat.le_of_ble_eq_true rfl)⟩ dX8_bytesIn_29
    · have hf := gneg' h_1 hf
      refine lv_iload_n hM.fx.1 hM.fx.2.1 dX8_bytesIn_9 rfl (lv_at hl 0 rfl) ?_
      refine lv_iload_n hM.fx.1 hM.fx.2.1 dX8_bytesIn_10 rfl (lv_at hl 2 rfl) ?_
      refine r_ishr hM.fx dX8_bytesIn_11 ?_
      refine lv_sipush (v := gi (255)) hM.fx.1 hM.fx.2.1 dX8_bytesIn_12 (by decide) ?_
      refine r_iand hM.fx dX8_bytesIn_15 ?_
      refine r_if_eq (tgt := 22) hM.fx (gi_r _) dX8_bytesIn_16 (by decide) (fun h_2 => ?_) (fun h_2 => ?_)
      · have hf := gpos h_2 hf
        exact wX8_bytesIn_22 hLC hM (fX8_bytesIn_5 g fu) ih  _ _ _ _ _ hr0 hr1 hr2 hf _ _ _ hH hl
      · have hf := gneg' h_2 hf
        obtain ⟨x_3, ex_3, hf⟩ := gst_s hf
        have hx_3 : gRI x_3 := by rw [ex_3]; exact gwi_r _
        refine r_iinc (lv' := [(1, .int (gi x_3)), (0, .int (gi x0)), (2, .int (gi x2))]) hM.fx dX8_bytesIn_19 hl (k := 1) rfl (by decide) (by rw [ex_3]; rfl) (fun ls hl => ?_)
        exact wX8_bytesIn_22 hLC hM (fX8_bytesIn_5 g fu) ih  _ _ _ _ _ hr0 hx_3 hr2 hf _ _ _ hH (lv_sub hl [1, 0, 2] rfl)
def fX8_bytesIn (g : Nat → Nat) (x0 : Int) : Option Int :=
  fX8_bytesIn_5 g gF x0 0 24
set_option maxHeartbeats 4000000 in
set_option maxRecDepth 100000 in
theorem mX8_bytesIn {w : gW} {n : Nat} {Rm : Nat → Nat → Nat} {g : Nat → Nat} (hLC : gLC g n Rm) {l : Launch} (hl9 : l.stackTraces = false) {x0 : Int} {M : gMem} {r : Int} (hr0 : gRI x0) (hf : fX8_bytesIn g x0 = some r) : gMT w n Rm l yX8_bytesIn cX8_bytesIn 3 (some .int) 1 60 0 0 [.int (gi x0)] M (.inr (some (.int (gi r)))) M (gRI r) := by
  unfold fX8_bytesIn at hf
  refine gMT.of hl9 (by decide +kernel) ((Nat.le_of_ble_eq_true rfl)) ?_
  intro p e s m below meth c hM hH ls hl
  have hM : gMC w p l s m ([.int (gi x0)] : List Value).toArray meth c cX8_bytesIn 3 RX8 (some .int) := hM
  have hl : lv_has ls 3 [(0, .int (gi x0))] := hl
  refine lv_iconst (v := gi (0)) hM.fx.1 hM.fx.2.1 dX8_bytesIn_0 rfl ?_
  refine lv_istore_n (lv' := [(1, .int (gi 0)), (0, .int (gi x0))]) hM.fx.1 hM.fx.2.1 dX8_bytesIn_1 rfl hl (by decide) rfl (fun ls hl => ?_)
  refine lv_bipush (v := gi (24)) hM.fx.1 hM.fx.2.1 dX8_bytesIn_2 (by decide) ?_
  refine lv_istore_n (lv' := [(2, .int (gi 24)), (1, .int (gi 0)), (0, .int (gi x0))]) hM.fx.1 hM.fx.2.1 dX8_bytesIn_4 rfl hl (by decide) rfl (fun ls hl => ?_)
  exact wX8_bytesIn_5 hLC hM  gF _ _ _ _ _ hr0 (gcR (k := 0) (by decide)) (gcR (k := 24) (by decide)) hf _ _ _ hH (lv_sub hl [2, 1, 0] rfl)
def fX8_append (g : Nat → Nat) (a0 : Nat) (x1 : Int) (x2 : Int) (x3 : Int) (x4 : Int) (x5 : Int) (M : gMem) : Option ((Nat ⊕ Int) × gMem) :=
  (fX8_bytesIn g x1).bind fun x_2 => (fX8_bytesIn g x2).bind fun x_4 => (fX8_bytesIn g x3).bind fun x_6 => (fX8_bytesIn g x4).bind fun x_8 => (fX8_bytesIn g x5).bind fun x_10 => gst (gwi (gwi (gwi (gwi (x_2 + x_4) + x_6) + x_8) + x_10)) fun x_11 => if gwi (M (a0 + 785) 2 + x_11) ≤ 600 then ((fX5_addBytes g (a0 + 785) x1 M).bind fun M_15 => (fX5_addBytes g (a0 + 785) x2 M_15).bind fun M_17 => (fX5_addBytes g (a0 + 785) x3 M_17).bind fun M_19 => (fX5_addBytes g (a0 + 785) x4 M_19).bind fun M_21 => (fX5_addBytes g (a0 + 785) x5 M_21).bind fun M_23 => some ((.inr (M_23 (a0 + 785) 2)), M_23)) else (some (.inl 1, M))
set_option maxHeartbeats 4000000 in
set_option maxRecDepth 100000 in
theorem mX8_append {w : gW} {n : Nat} {Rm : Nat → Nat → Nat} {g : Nat → Nat} (hLC : gLC g n Rm) {l : Launch} (hl9 : l.stackTraces = false) {a0 : Nat} {x1 : Int} {x2 : Int} {x3 : Int} {x4 : Int} {x5 : Int} {M : gMem} {r : ((Nat ⊕ Int) × gMem)} (hg0 : g a0 = 8) (hr1 : gRI x1) (hr2 : gRI x2) (hr3 : gRI x3) (hr4 : gRI x4) (hr5 : gRI x5) (hf : fX8_append g a0 x1 x2 x3 x4 x5 M = some r) : gMT w n Rm l yX8_append cX8_append 7 (some .int) 6 100 1 6 [.ref (w.1 + a0), .int (gi x1), .int (gi x2), .int (gi x3), .int (gi x4), .int (gi x5)] M (gOcT (fun z => some (.int (gi z))) r.1) r.2 (∀ z, r.1 = .inr z → (gRI z)) := by
  unfold fX8_append at hf
  refine gMT.of hl9 (by decide +kernel) ((Nat.le_of_ble_eq_true rfl)) ?_
  intro p e s m below meth c hM hH ls hl
  have hM : gMC w p l s m ([.ref (w.1 + a0), .int (gi x1), .int (gi x2), .int (gi x3), .int (gi x4), .int (gi x5)] : List Value).toArray meth c cX8_append 7 RX8 (some .int) := hM
  have hl : lv_has ls 7 [(0, .ref (w.1 + a0)), (1, .int (gi x1)), (2, .int (gi x2)), (3, .int (gi x3)), (4, .int (gi x4)), (5, .int (gi x5))] := hl
  refine lv_iload_n hM.fx.1 hM.fx.2.1 dX8_append_0 rfl (lv_at hl 1 rfl) ?_
  obtain ⟨x_2, ex_2, hf⟩ := gbd hf
  refine r_go1 hH rfl (r_runS (As := [.int (gi x1)]) hM hH cs_X8_58 (mX8_bytesIn hLC hM.ns hr1 ex_2) rfl hl.1 rfl (Nat.le_of_ble_eq_true rfl) ⟨(Nat.le_of_ble_eq_true rfl), (Nat.le_of_ble_eq_true rfl)⟩ ⟨(Nat.le_of_ble_eq_true rfl), (Nat.le_of_ble_eq_true rfl)⟩ dX8_append_1) (fun hp_1 H locs hH => ?_)
  refine lv_iload_n hM.fx.1 hM.fx.2.1 dX8_append_4 rfl (lv_at hl 2 rfl) ?_
  obtain ⟨x_4, ex_4, hf⟩ := gbd hf
  refine r_go1 hH rfl (r_runS (As := [.int (gi x2)]) hM hH cs_X8_58 (mX8_bytesIn hLC hM.ns hr2 ex_4) rfl hl.1 rfl (Nat.le_of_ble_eq_true rfl) ⟨(Nat.le_of_ble_eq_true rfl), (Nat.le_of_ble_eq_true rfl)⟩ ⟨(Nat.le_of_ble_eq_true rfl), (Nat.le_of_ble_eq_true rfl)⟩ dX8_append_5) (fun hp_3 H locs hH => ?_)
  refine r_iadd hM.fx dX8_append_8 ?_
  refine lv_iload_n hM.fx.1 hM.fx.2.1 dX8_append_9 rfl (lv_at hl 3 rfl) ?_
  obtain ⟨x_6, ex_6, hf⟩ := gbd hf
  refine r_go1 hH rfl (r_runS (As := [.int (gi x3)]) hM hH cs_X8_58 (mX8_bytesIn hLC hM.ns hr3 ex_6) rfl hl.1 rfl (Nat.le_of_ble_eq_true rfl) ⟨(Nat.le_of_ble_eq_true rfl), (Nat.le_of_ble_eq_true rfl)⟩ ⟨(Nat.le_of_ble_eq_true rfl), (Nat.le_of_ble_eq_true rfl)⟩ dX8_append_10) (fun hp_5 H locs hH => ?_)
  refine r_iadd hM.fx dX8_append_13 ?_
  refine lv_iload hM.fx.1 hM.fx.2.1 dX8_append_14 (lv_at hl 4 rfl) ?_
  obtain ⟨x_8, ex_8, hf⟩ := gbd hf
  refine r_go1 hH rfl (r_runS (As := [.int (gi x4)]) hM hH cs_X8_58 (mX8_bytesIn hLC hM.ns hr4 ex_8) rfl hl.1 rfl (Nat.le_of_ble_eq_true rfl) ⟨(Nat.le_of_ble_eq_true rfl), (Nat.le_of_ble_eq_true rfl)⟩ ⟨(Nat.le_of_ble_eq_true rfl), (Nat.le_of_ble_eq_true rfl)⟩ dX8_append_16) (fun hp_7 H locs hH => ?_)
  refine r_iadd hM.fx dX8_append_19 ?_
  refine lv_iload hM.fx.1 hM.fx.2.1 dX8_append_20 (lv_at hl 5 rfl) ?_
  obtain ⟨x_10, ex_10, hf⟩ := gbd hf
  refine r_go1 hH rfl (r_runS (As := [.int (gi x5)]) hM hH cs_X8_58 (mX8_bytesIn hLC hM.ns hr5 ex_10) rfl hl.1 rfl (Nat.le_of_ble_eq_true rfl) ⟨(Nat.le_of_ble_eq_true rfl), (Nat.le_of_ble_eq_true rfl)⟩ ⟨(Nat.le_of_ble_eq_true rfl), (Nat.le_of_ble_eq_true rfl)⟩ dX8_append_22) (fun hp_9 H locs hH => ?_)
  refine r_iadd hM.fx dX8_append_25 ?_
  obtain ⟨x_11, ex_11, hf⟩ := gst_s hf
  refine W.eq (g2 := F0 m _ ls (.int (gi x_11) :: _)) (by rw [ex_11]) ?_
  have hx_11 : gRI x_11 := by rw [ex_11]; exact (gwi_r _)
  refine lv_istore (lv' := [(6, .int (gi x_11)), (0, .ref (w.1 + a0)), (1, .int (gi x1)), (2, .int (gi x2)), (3, .int (gi x3)), (4, .int (gi x4)), (5, .int (gi x5))]) hM.fx.1 hM.fx.2.1 dX8_append_26 hl (by decide) rfl (fun ls hl => ?_)
  refine lv_aload_n hM.fx.1 hM.fx.2.1 dX8_append_28 rfl (lv_at hl 1 rfl) ?_
  refine r_getR hM.fx hM.kf hH hLC fl_X8_47 hg0 gch_8_5 dX8_append_29 ?_
  refine r_getI hM.fx hM.kf hH fl_X8_62 (hLC.in (hLC.ch hg0 (by decide) gch_8_5) (by decide)) dX8_append_32 ?_
  have hr_12 := hH.2.2.i (hLC.in (hLC.ch hg0 (by decide) gch_8_5) (by decide)).2.2 (by decide : glg 6 2 = false)
  refine lv_iload hM.fx.1 hM.fx.2.1 dX8_append_35 (lv_at hl 0 rfl) ?_
  refine r_iadd hM.fx dX8_append_37 ?_
  refine lv_sipush (v := gi (600)) hM.fx.1 hM.fx.2.1 dX8_append_38 (by decide) ?_
  refine r_icmp_le (tgt := 54) hM.fx (gwi_r _) (gcR (k := 600) (by decide)) dX8_append_41 (by decide) (fun h_13 => ?_) (fun h_13 => ?_)
  · have hf := gpos h_13 hf
    refine lv_aload_n hM.fx.1 hM.fx.2.1 dX8_append_54 rfl (lv_at hl 1 rfl) ?_
    refine r_getR hM.fx hM.kf hH hLC fl_X8_47 hg0 gch_8_5 dX8_append_55 ?_
    refine lv_iload_n hM.fx.1 hM.fx.2.1 dX8_append_58 rfl (lv_at hl 2 rfl) ?_
    obtain ⟨M_15, eM_15, hf⟩ := gbd hf
    refine r_go0 hH rfl (r_runV (As := [.int (gi x1)]) hM hH cv_X8_73 (mX5_addBytes hLC hM.ns (hLC.ch hg0 (by decide) gch_8_5) hr1 eM_15) (hLC.in (hLC.ch hg0 (by decide) gch_8_5) (by decide)) (by decide) rfl rfl rfl hl.1 rfl (Nat.le_of_ble_eq_true rfl) ⟨(Nat.le_of_ble_eq_true rfl), (Nat.le_of_ble_eq_true rfl)⟩ ⟨(Nat.le_of_ble_eq_true rfl), (Nat.le_of_ble_eq_true rfl)⟩ dX8_append_59) (fun hp_14 H locs hH => ?_)
    refine lv_aload_n hM.fx.1 hM.fx.2.1 dX8_append_62 rfl (lv_at hl 1 rfl) ?_
    refine r_getR hM.fx hM.kf hH hLC fl_X8_47 hg0 gch_8_5 dX8_append_63 ?_
    refine lv_iload_n hM.fx.1 hM.fx.2.1 dX8_append_66 rfl (lv_at hl 3 rfl) ?_
    obtain ⟨M_17, eM_17, hf⟩ := gbd hf
    refine r_go0 hH rfl (r_runV (As := [.int (gi x2)]) hM hH cv_X8_73 (mX5_addBytes hLC hM.ns (hLC.ch hg0 (by decide) gch_8_5) hr2 eM_17) (hLC.in (hLC.ch hg0 (by decide) gch_8_5) (by decide)) (by decide) rfl rfl rfl hl.1 rfl (Nat.le_of_ble_eq_true rfl) ⟨(Nat.le_of_ble_eq_true rfl), (Nat.le_of_ble_eq_true rfl)⟩ ⟨(Nat.le_of_ble_eq_true rfl), (Nat.le_of_ble_eq_true rfl)⟩ dX8_append_67) (fun hp_16 H locs hH => ?_)
    refine lv_aload_n hM.fx.1 hM.fx.2.1 dX8_append_70 rfl (lv_at hl 1 rfl) ?_
    refine r_getR hM.fx hM.kf hH hLC fl_X8_47 hg0 gch_8_5 dX8_append_71 ?_
    refine lv_iload_n hM.fx.1 hM.fx.2.1 dX8_append_74 rfl (lv_at hl 4 rfl) ?_
    obtain ⟨M_19, eM_19, hf⟩ := gbd hf
    refine r_go0 hH rfl (r_runV (As := [.int (gi x3)]) hM hH cv_X8_73 (mX5_addBytes hLC hM.ns (hLC.ch hg0 (by decide) gch_8_5) hr3 eM_19) (hLC.in (hLC.ch hg0 (by decide) gch_8_5) (by decide)) (by decide) rfl rfl rfl hl.1 rfl (Nat.le_of_ble_eq_true rfl) ⟨(Nat.le_of_ble_eq_true rfl), (Nat.le_of_ble_eq_true rfl)⟩ ⟨(Nat.le_of_ble_eq_true rfl), (Nat.le_of_ble_eq_true rfl)⟩ dX8_append_75) (fun hp_18 H locs hH => ?_)
    refine lv_aload_n hM.fx.1 hM.fx.2.1 dX8_append_78 rfl (lv_at hl 1 rfl) ?_
    refine r_getR hM.fx hM.kf hH hLC fl_X8_47 hg0 gch_8_5 dX8_append_79 ?_
    refine lv_iload hM.fx.1 hM.fx.2.1 dX8_append_82 (lv_at hl 5 rfl) ?_
    obtain ⟨M_21, eM_21, hf⟩ := gbd hf
    refine r_go0 hH rfl (r_runV (As := [.int (gi x4)]) hM hH cv_X8_73 (mX5_addBytes hLC hM.ns (hLC.ch hg0 (by decide) gch_8_5) hr4 eM_21) (hLC.in (hLC.ch hg0 (by decide) gch_8_5) (by decide)) (by decide) rfl rfl rfl hl.1 rfl (Nat.le_of_ble_eq_true rfl) ⟨(Nat.le_of_ble_eq_true rfl), (Nat.le_of_ble_eq_true rfl)⟩ ⟨(Nat.le_of_ble_eq_true rfl), (Nat.le_of_ble_eq_true rfl)⟩ dX8_append_84) (fun hp_20 H locs hH => ?_)
    refine lv_aload_n hM.fx.1 hM.fx.2.1 dX8_append_87 rfl (lv_at hl 1 rfl) ?_
    refine r_getR hM.fx hM.kf hH hLC fl_X8_47 hg0 gch_8_5 dX8_append_88 ?_
    refine lv_iload hM.fx.1 hM.fx.2.1 dX8_append_91 (lv_at hl 6 rfl) ?_
    obtain ⟨M_23, eM_23, hf⟩ := gbd hf
    refine r_go0 hH rfl (r_runV (As := [.int (gi x5)]) hM hH cv_X8_73 (mX5_addBytes hLC hM.ns (hLC.ch hg0 (by decide) gch_8_5) hr5 eM_23) (hLC.in (hLC.ch hg0 (by decide) gch_8_5) (by decide)) (by decide) rfl rfl rfl hl.1 rfl (Nat.le_of_ble_eq_true rfl) ⟨(Nat.le_of_ble_eq_true rfl), (Nat.le_of_ble_eq_true rfl)⟩ ⟨(Nat.le_of_ble_eq_true rfl), (Nat.le_of_ble_eq_true rfl)⟩ dX8_append_93) (fun hp_22 H locs hH => ?_)
    refine lv_aload_n hM.fx.1 hM.fx.2.1 dX8_append_96 rfl (lv_at hl 1 rfl) ?_
    refine r_getR hM.fx hM.kf hH hLC fl_X8_47 hg0 gch_8_5 dX8_append_97 ?_
    refine r_getI hM.fx hM.kf hH fl_X8_62 (hLC.in (hLC.ch hg0 (by decide) gch_8_5) (by decide)) dX8_append_100 ?_
    have hr_24 := hH.2.2.i (hLC.in (hLC.ch hg0 (by decide) gch_8_5) (by decide)).2.2 (by decide : glg 6 2 = false)
    obtain rfl := Option.some.inj hf
    exact r_iret hM hH (fun z hz => by cases hz; exact hr_24) ⟨(Nat.le_of_ble_eq_true rfl), (Nat.le_of_ble_eq_true rfl)⟩ dX8_append_103
  · have hf := gneg' h_13 hf
    obtain rfl := Option.some.inj hf
    exact r_throw (i := 21) (text := "the text would be too long") hM hH th_X8_66_70 rfl hl.1 dX8_append_44 dX8_append_47 dX8_append_48 dX8_append_50 dX8_append_53 ⟨(Nat.le_of_ble_eq_true rfl), (Nat.le_of_ble_eq_true rfl), (Nat.le_of_ble_eq_true rfl), (Nat.le_of_ble_eq_true rfl)⟩ ⟨(Nat.le_of_ble_eq_true rfl), (Nat.le_of_ble_eq_true rfl)⟩
def fX8_load (g : Nat → Nat) (a0 : Nat) (M : gMem) : Option (Int × gMem) :=
  (fX5_readText g (a0 + 785) M).bind fun q_2 => gst q_2.1 fun x_3 => gst (gup q_2.2 (a0 + 785) 2 0) fun M_4 => if x_3 = 0 then (some (M_4 (a0 + 785) 3, M_4)) else ((fX1_remember g (a0 + 131) (a0 + 1) M_4).bind fun M_7 => (fX0_copyFrom g (a0 + 1) (a0 + 785 + 2) M_7).bind fun M_9 => some (M_9 (a0 + 1) 5, M_9))
set_option maxHeartbeats 4000000 in
set_option maxRecDepth 100000 in
theorem mX8_load {w : gW} {n : Nat} {Rm : Nat → Nat → Nat} {g : Nat → Nat} (hLC : gLC g n Rm) {l : Launch} (hl9 : l.stackTraces = false) {a0 : Nat} {M : gMem} {r : (Int × gMem)} (hg0 : g a0 = 8) (hf : fX8_load g a0 M = some r) : gMT w n Rm l yX8_load cX8_load 2 (some .int) 14 380 0 0 [.ref (w.1 + a0)] M (.inr (some (.int (gi r.1)))) r.2 (gRI r.1) := by
  unfold fX8_load at hf
  refine gMT.of hl9 (by decide +kernel) ((Nat.le_of_ble_eq_true rfl)) ?_
  intro p e s m below meth c hM hH ls hl
  have hM : gMC w p l s m ([.ref (w.1 + a0)] : List Value).toArray meth c cX8_load 2 RX8 (some .int) := hM
  have hl : lv_has ls 2 [(0, .ref (w.1 + a0))] := hl
  refine lv_aload_n hM.fx.1 hM.fx.2.1 dX8_load_0 rfl (lv_at hl 0 rfl) ?_
  refine r_getR hM.fx hM.kf hH hLC fl_X8_47 hg0 gch_8_5 dX8_load_1 ?_
  obtain ⟨q_2, eq_2, hf⟩ := gbd hf
  refine r_go1 hH rfl (r_runV (As := []) hM hH cv_X8_76 (mX5_readText hLC hM.ns (hLC.ch hg0 (by decide) gch_8_5) eq_2) (hLC.in (hLC.ch hg0 (by decide) gch_8_5) (by decide)) (by decide) rfl rfl rfl hl.1 rfl (Nat.le_of_ble_eq_true rfl) ⟨(Nat.le_of_ble_eq_true rfl), (Nat.le_of_ble_eq_true rfl)⟩ ⟨(Nat.le_of_ble_eq_true rfl), (Nat.le_of_ble_eq_true rfl)⟩ dX8_load_4) (fun hp_1 H locs hH => ?_)
  obtain ⟨x_3, ex_3, hf⟩ := gst_s hf
  refine W.eq (g2 := F0 m _ ls (.int (gi x_3) :: _)) (by rw [ex_3]) ?_
  have hx_3 : gRI x_3 := by rw [ex_3]; exact (gz_r hp_1)
  have zx_3 : x_3 = 0 ∨ x_3 = 1 := by rw [ex_3]; exact hp_1
  refine lv_istore_n (lv' := [(1, .int (gi x_3)), (0, .ref (w.1 + a0))]) hM.fx.1 hM.fx.2.1 dX8_load_7 rfl hl (by decide) rfl (fun ls hl => ?_)
  refine lv_aload_n hM.fx.1 hM.fx.2.1 dX8_load_8 rfl (lv_at hl 1 rfl) ?_
  refine r_getR hM.fx hM.kf hH hLC fl_X8_47 hg0 gch_8_5 dX8_load_9 ?_
  refine lv_iconst (v := gi (0)) hM.fx.1 hM.fx.2.1 dX8_load_12 rfl ?_
  refine r_putI hM.fx hM.kf hH fp_X8_62 (hLC.in (hLC.ch hg0 (by decide) gch_8_5) (by decide)) (gcR (k := 0) (by decide)) dX8_load_13 (fun H locs hH => ?_)
  obtain ⟨M_4, eM_4, hf⟩ := gst_s hf
  rw [← eM_4] at hH
  refine lv_iload_n hM.fx.1 hM.fx.2.1 dX8_load_16 rfl (lv_at hl 0 rfl) ?_
  refine r_if_ne (tgt := 28) hM.fx hx_3 dX8_load_17 (by decide) (fun h_5 => ?_) (fun h_5 => ?_)
  · have hf := gneg' h_5 hf
    refine lv_aload_n hM.fx.1 hM.fx.2.1 dX8_load_28 rfl (lv_at hl 1 rfl) ?_
    refine r_getR hM.fx hM.kf hH hLC fl_X8_32 hg0 gch_8_2 dX8_load_29 ?_
    refine lv_aload_n hM.fx.1 hM.fx.2.1 dX8_load_32 rfl (lv_at hl 1 rfl) ?_
    refine r_getR hM.fx hM.kf hH hLC fl_X8_10 hg0 gch_8_0 dX8_load_33 ?_
    obtain ⟨M_7, eM_7, hf⟩ := gbd hf
    refine r_go0 hH rfl (r_runV (As := [.ref (w.1 + (a0 + 1))]) hM hH cv_X8_83 (mX1_remember hLC hM.ns (hLC.ch hg0 (by decide) gch_8_2) (hLC.ch hg0 (by decide) gch_8_0) eM_7) (hLC.in (hLC.ch hg0 (by decide) gch_8_2) (by decide)) (by decide) rfl rfl rfl hl.1 rfl (Nat.le_of_ble_eq_true rfl) ⟨(Nat.le_of_ble_eq_true rfl), (Nat.le_of_ble_eq_true rfl)⟩ ⟨(Nat.le_of_ble_eq_true rfl), (Nat.le_of_ble_eq_true rfl)⟩ dX8_load_36) (fun hp_6 H locs hH => ?_)
    refine lv_aload_n hM.fx.1 hM.fx.2.1 dX8_load_39 rfl (lv_at hl 1 rfl) ?_
    refine r_getR hM.fx hM.kf hH hLC fl_X8_10 hg0 gch_8_0 dX8_load_40 ?_
    refine lv_aload_n hM.fx.1 hM.fx.2.1 dX8_load_43 rfl (lv_at hl 1 rfl) ?_
    refine r_getR hM.fx hM.kf hH hLC fl_X8_47 hg0 gch_8_5 dX8_load_44 ?_
    refine r_getR hM.fx hM.kf hH hLC fl_X8_87 (hLC.ch hg0 (by decide) gch_8_5) gch_6_1 dX8_load_47 ?_
    obtain ⟨M_9, eM_9, hf⟩ := gbd hf
    refine r_go0 hH rfl (r_runV (As := [.ref (w.1 + (a0 + 785 + 2))]) hM hH cv_X8_88 (mX0_copyFrom hLC hM.ns (hLC.ch hg0 (by decide) gch_8_0) (hLC.ch (hLC.ch hg0 (by decide) gch_8_5) (by decide) gch_6_1) eM_9) (hLC.in (hLC.ch hg0 (by decide) gch_8_0) (by decide)) (by decide) rfl rfl rfl hl.1 rfl (Nat.le_of_ble_eq_true rfl) ⟨(Nat.le_of_ble_eq_true rfl), (Nat.le_of_ble_eq_true rfl)⟩ ⟨(Nat.le_of_ble_eq_true rfl), (Nat.le_of_ble_eq_true rfl)⟩ dX8_load_50) (fun hp_8 H locs hH => ?_)
    refine lv_aload_n hM.fx.1 hM.fx.2.1 dX8_load_53 rfl (lv_at hl 1 rfl) ?_
    refine r_getR hM.fx hM.kf hH hLC fl_X8_10 hg0 gch_8_0 dX8_load_54 ?_
    refine r_getI hM.fx hM.kf hH fl_X8_91 (hLC.in (hLC.ch hg0 (by decide) gch_8_0) (by decide)) dX8_load_57 ?_
    have hr_10 := hH.2.2.i (hLC.in (hLC.ch hg0 (by decide) gch_8_0) (by decide)).2.2 (by decide : glg 1 5 = false)
    obtain rfl := Option.some.inj hf
    exact r_iret hM hH hr_10 ⟨(Nat.le_of_ble_eq_true rfl), (Nat.le_of_ble_eq_true rfl)⟩ dX8_load_60
  · have hf := gpos h_5 hf
    refine lv_aload_n hM.fx.1 hM.fx.2.1 dX8_load_20 rfl (lv_at hl 1 rfl) ?_
    refine r_getR hM.fx hM.kf hH hLC fl_X8_47 hg0 gch_8_5 dX8_load_21 ?_
    refine r_getI hM.fx hM.kf hH fl_X8_80 (hLC.in (hLC.ch hg0 (by decide) gch_8_5) (by decide)) dX8_load_24 ?_
    have hr_11 := hH.2.2.i (hLC.in (hLC.ch hg0 (by decide) gch_8_5) (by decide)).2.2 (by decide : glg 6 3 = false)
    obtain rfl := Option.some.inj hf
    exact r_iret hM hH hr_11 ⟨(Nat.le_of_ble_eq_true rfl), (Nat.le_of_ble_eq_true rfl)⟩ dX8_load_27
def fX8_errorPosition (g : Nat → Nat) (a0 : Nat) (M : gMem) : Option Int :=
  some (M (a0 + 785) 4)
set_option maxHeartbeats 4000000 in
set_option maxRecDepth 100000 in
theorem mX8_errorPosition {w : gW} {n : Nat} {Rm : Nat → Nat → Nat} {g : Nat → Nat} (hLC : gLC g n Rm) {l : Launch} (hl9 : l.stackTraces = false) {a0 : Nat} {M : gMem} {r : Int} (hg0 : g a0 = 8) (hf : fX8_errorPosition g a0 M = some r) : gMT w n Rm l yX8_errorPosition cX8_errorPosition 1 (some .int) 1 60 0 0 [.ref (w.1 + a0)] M (.inr (some (.int (gi r)))) M (gRI r) := by
  unfold fX8_errorPosition at hf
  refine gMT.of hl9 (by decide +kernel) ((Nat.le_of_ble_eq_true rfl)) ?_
  intro p e s m below meth c hM hH ls hl
  have hM : gMC w p l s m ([.ref (w.1 + a0)] : List Value).toArray meth c cX8_errorPosition 1 RX8 (some .int) := hM
  have hl : lv_has ls 1 [(0, .ref (w.1 + a0))] := hl
  refine lv_aload_n hM.fx.1 hM.fx.2.1 dX8_errorPosition_0 rfl (lv_at hl 0 rfl) ?_
  refine r_getR hM.fx hM.kf hH hLC fl_X8_47 hg0 gch_8_5 dX8_errorPosition_1 ?_
  refine r_getI hM.fx hM.kf hH fl_X8_94 (hLC.in (hLC.ch hg0 (by decide) gch_8_5) (by decide)) dX8_errorPosition_4 ?_
  have hr_1 := hH.2.2.i (hLC.in (hLC.ch hg0 (by decide) gch_8_5) (by decide)).2.2 (by decide : glg 6 4 = false)
  obtain rfl := Option.some.inj hf
  exact r_iret hM hH hr_1 ⟨(Nat.le_of_ble_eq_true rfl), (Nat.le_of_ble_eq_true rfl)⟩ dX8_errorPosition_7
def fX8_count (g : Nat → Nat) (a0 : Nat) (x1 : Int) (M : gMem) : Option (Nat ⊕ Int) :=
  if x1 = 0 then (some (.inr (M (a0 + 1) 4))) else (if x1 = 1 then (some (.inr (M (a0 + 1) 5))) else (if x1 = 2 then (some (.inr (M (a0 + 1) 6))) else (if x1 = 3 then (some (.inr (M (a0 + 1) 7))) else (if x1 = 4 then ((fX0_countInState g (a0 + 1) 0 M).bind fun x_11 => some (.inr x_11)) else (if x1 = 5 then ((fX0_countInState g (a0 + 1) 1 M).bind fun x_14 => some (.inr x_14)) else (if x1 = 6 then ((fX0_countInState g (a0 + 1) 2 M).bind fun x_17 => some (.inr x_17)) else (if x1 = 7 then ((fX0_allSteps g (a0 + 1) M).bind fun x_20 => some (.inr x_20)) else (if x1 = 8 then ((fX2_size g (a0 + 1 + 4) M).bind fun x_23 => some (.inr x_23)) else (if x1 = 9 then ((fX0_nextProc g (a0 + 1) M).bind fun x_26 => some (.inr x_26)) else (if x1 = 10 then ((fX0_countInState g (a0 + 1) 0 M).bind fun x_29 => if x_29 ≤ 0 then (some (.inr 0)) else ((fX6_isOver g (a0 + 1) M).bind fun x_32 => if x_32 = 0 then (some (.inr 0)) else (some (.inr 1)))) else (some (.inl 2))))))))))))
set_option maxHeartbeats 4000000 in
set_option maxRecDepth 100000 in
theorem mX8_count {w : gW} {n : Nat} {Rm : Nat → Nat → Nat} {g : Nat → Nat} (hLC : gLC g n Rm) {l : Launch} (hl9 : l.stackTraces = false) {a0 : Nat} {x1 : Int} {M : gMem} {r : (Nat ⊕ Int)} (hg0 : g a0 = 8) (hr1 : gRI x1) (hf : fX8_count g a0 x1 M = some r) : gMT w n Rm l yX8_count cX8_count 2 (some .int) 6 149 1 6 [.ref (w.1 + a0), .int (gi x1)] M (gOcT (fun z => some (.int (gi z))) r) M (∀ z, r = .inr z → (gRI z)) := by
  unfold fX8_count at hf
  refine gMT.of hl9 (by decide +kernel) ((Nat.le_of_ble_eq_true rfl)) ?_
  intro p e s m below meth c hM hH ls hl
  have hM : gMC w p l s m ([.ref (w.1 + a0), .int (gi x1)] : List Value).toArray meth c cX8_count 2 RX8 (some .int) := hM
  have hl : lv_has ls 2 [(0, .ref (w.1 + a0)), (1, .int (gi x1))] := hl
  refine lv_iload_n hM.fx.1 hM.fx.2.1 dX8_count_0 rfl (lv_at hl 1 rfl) ?_
  by_cases h_1 : x1 = 0
  · refine r_tsIn (tgt := 60) hM.fx hr1 0 dX8_count_1 h_1 (by decide) rfl (by decide) ?_
    have hf := gpos h_1 hf
    refine lv_aload_n hM.fx.1 hM.fx.2.1 dX8_count_60 rfl (lv_at hl 0 rfl) ?_
    refine r_getR hM.fx hM.kf hH hLC fl_X8_10 hg0 gch_8_0 dX8_count_61 ?_
    refine r_getI hM.fx hM.kf hH fl_X8_97 (hLC.in (hLC.ch hg0 (by decide) gch_8_0) (by decide)) dX8_count_64 ?_
    have hr_2 := hH.2.2.i (hLC.in (hLC.ch hg0 (by decide) gch_8_0) (by decide)).2.2 (by decide : glg 1 4 = false)
    obtain rfl := Option.some.inj hf
    exact r_iret hM hH (fun z hz => by cases hz; exact hr_2) ⟨(Nat.le_of_ble_eq_true rfl), (Nat.le_of_ble_eq_true rfl)⟩ dX8_count_67
  · have hf := gneg' h_1 hf
    by_cases h_3 : x1 = 1
    · refine r_tsIn (tgt := 68) hM.fx hr1 1 dX8_count_1 h_3 (by decide) rfl (by decide) ?_
      have hf := gpos h_3 hf
      refine lv_aload_n hM.fx.1 hM.fx.2.1 dX8_count_68 rfl (lv_at hl 0 rfl) ?_
      refine r_getR hM.fx hM.kf hH hLC fl_X8_10 hg0 gch_8_0 dX8_count_69 ?_
      refine r_getI hM.fx hM.kf hH fl_X8_91 (hLC.in (hLC.ch hg0 (by decide) gch_8_0) (by decide)) dX8_count_72 ?_
      have hr_4 := hH.2.2.i (hLC.in (hLC.ch hg0 (by decide) gch_8_0) (by decide)).2.2 (by decide : glg 1 5 = false)
      obtain rfl := Option.some.inj hf
      exact r_iret hM hH (fun z hz => by cases hz; exact hr_4) ⟨(Nat.le_of_ble_eq_true rfl), (Nat.le_of_ble_eq_true rfl)⟩ dX8_count_75
    · have hf := gneg' h_3 hf
      by_cases h_5 : x1 = 2
      · refine r_tsIn (tgt := 76) hM.fx hr1 2 dX8_count_1 h_5 (by decide) rfl (by decide) ?_
        have hf := gpos h_5 hf
        refine lv_aload_n hM.fx.1 hM.fx.2.1 dX8_count_76 rfl (lv_at hl 0 rfl) ?_
        refine r_getR hM.fx hM.kf hH hLC fl_X8_10 hg0 gch_8_0 dX8_count_77 ?_
        refine r_getI hM.fx hM.kf hH fl_X8_100 (hLC.in (hLC.ch hg0 (by decide) gch_8_0) (by decide)) dX8_count_80 ?_
        have hr_6 := hH.2.2.i (hLC.in (hLC.ch hg0 (by decide) gch_8_0) (by decide)).2.2 (by decide : glg 1 6 = false)
        obtain rfl := Option.some.inj hf
        exact r_iret hM hH (fun z hz => by cases hz; exact hr_6) ⟨(Nat.le_of_ble_eq_true rfl), (Nat.le_of_ble_eq_true rfl)⟩ dX8_count_83
      · have hf := gneg' h_5 hf
        by_cases h_7 : x1 = 3
        · refine r_tsIn (tgt := 84) hM.fx hr1 3 dX8_count_1 h_7 (by decide) rfl (by decide) ?_
          have hf := gpos h_7 hf
          refine lv_aload_n hM.fx.1 hM.fx.2.1 dX8_count_84 rfl (lv_at hl 0 rfl) ?_
          refine r_getR hM.fx hM.kf hH hLC fl_X8_10 hg0 gch_8_0 dX8_count_85 ?_
          refine r_getI hM.fx hM.kf hH fl_X8_103 (hLC.in (hLC.ch hg0 (by decide) gch_8_0) (by decide)) dX8_count_88 ?_
          have hr_8 := hH.2.2.i (hLC.in (hLC.ch hg0 (by decide) gch_8_0) (by decide)).2.2 (by decide : glg 1 7 = false)
          obtain rfl := Option.some.inj hf
          exact r_iret hM hH (fun z hz => by cases hz; exact hr_8) ⟨(Nat.le_of_ble_eq_true rfl), (Nat.le_of_ble_eq_true rfl)⟩ dX8_count_91
        · have hf := gneg' h_7 hf
          by_cases h_9 : x1 = 4
          · refine r_tsIn (tgt := 92) hM.fx hr1 4 dX8_count_1 h_9 (by decide) rfl (by decide) ?_
            have hf := gpos h_9 hf
            refine lv_aload_n hM.fx.1 hM.fx.2.1 dX8_count_92 rfl (lv_at hl 0 rfl) ?_
            refine r_getR hM.fx hM.kf hH hLC fl_X8_10 hg0 gch_8_0 dX8_count_93 ?_
            refine lv_iconst (v := gi (0)) hM.fx.1 hM.fx.2.1 dX8_count_96 rfl ?_
            obtain ⟨x_11, ex_11, hf⟩ := gbd hf
            refine r_go1 hH rfl (r_runV (As := [.int (gi 0)]) hM hH cv_X8_106 (mX0_countInState hLC hM.ns (hLC.ch hg0 (by decide) gch_8_0) (gcR (k := 0) (by decide)) ex_11) (hLC.in (hLC.ch hg0 (by decide) gch_8_0) (by decide)) (by decide) rfl rfl rfl hl.1 rfl (Nat.le_of_ble_eq_true rfl) ⟨(Nat.le_of_ble_eq_true rfl), (Nat.le_of_ble_eq_true rfl)⟩ ⟨(Nat.le_of_ble_eq_true rfl), (Nat.le_of_ble_eq_true rfl)⟩ dX8_count_97) (fun hp_10 H locs hH => ?_)
            obtain rfl := Option.some.inj hf
            exact r_iret hM hH (fun z hz => by cases hz; exact hp_10) ⟨(Nat.le_of_ble_eq_true rfl), (Nat.le_of_ble_eq_true rfl)⟩ dX8_count_100
          · have hf := gneg' h_9 hf
            by_cases h_12 : x1 = 5
            · refine r_tsIn (tgt := 101) hM.fx hr1 5 dX8_count_1 h_12 (by decide) rfl (by decide) ?_
              have hf := gpos h_12 hf
              refine lv_aload_n hM.fx.1 hM.fx.2.1 dX8_count_101 rfl (lv_at hl 0 rfl) ?_
              refine r_getR hM.fx hM.kf hH hLC fl_X8_10 hg0 gch_8_0 dX8_count_102 ?_
              refine lv_iconst (v := gi (1)) hM.fx.1 hM.fx.2.1 dX8_count_105 rfl ?_
              obtain ⟨x_14, ex_14, hf⟩ := gbd hf
              refine r_go1 hH rfl (r_runV (As := [.int (gi 1)]) hM hH cv_X8_106 (mX0_countInState hLC hM.ns (hLC.ch hg0 (by decide) gch_8_0) (gcR (k := 1) (by decide)) ex_14) (hLC.in (hLC.ch hg0 (by decide) gch_8_0) (by decide)) (by decide) rfl rfl rfl hl.1 rfl (Nat.le_of_ble_eq_true rfl) ⟨(Nat.le_of_ble_eq_true rfl), (Nat.le_of_ble_eq_true rfl)⟩ ⟨(Nat.le_of_ble_eq_true rfl), (Nat.le_of_ble_eq_true rfl)⟩ dX8_count_106) (fun hp_13 H locs hH => ?_)
              obtain rfl := Option.some.inj hf
              exact r_iret hM hH (fun z hz => by cases hz; exact hp_13) ⟨(Nat.le_of_ble_eq_true rfl), (Nat.le_of_ble_eq_true rfl)⟩ dX8_count_109
            · have hf := gneg' h_12 hf
              by_cases h_15 : x1 = 6
              · refine r_tsIn (tgt := 110) hM.fx hr1 6 dX8_count_1 h_15 (by decide) rfl (by decide) ?_
                have hf := gpos h_15 hf
                refine lv_aload_n hM.fx.1 hM.fx.2.1 dX8_count_110 rfl (lv_at hl 0 rfl) ?_
                refine r_getR hM.fx hM.kf hH hLC fl_X8_10 hg0 gch_8_0 dX8_count_111 ?_
                refine lv_iconst (v := gi (2)) hM.fx.1 hM.fx.2.1 dX8_count_114 rfl ?_
                obtain ⟨x_17, ex_17, hf⟩ := gbd hf
                refine r_go1 hH rfl (r_runV (As := [.int (gi 2)]) hM hH cv_X8_106 (mX0_countInState hLC hM.ns (hLC.ch hg0 (by decide) gch_8_0) (gcR (k := 2) (by decide)) ex_17) (hLC.in (hLC.ch hg0 (by decide) gch_8_0) (by decide)) (by decide) rfl rfl rfl hl.1 rfl (Nat.le_of_ble_eq_true rfl) ⟨(Nat.le_of_ble_eq_true rfl), (Nat.le_of_ble_eq_true rfl)⟩ ⟨(Nat.le_of_ble_eq_true rfl), (Nat.le_of_ble_eq_true rfl)⟩ dX8_count_115) (fun hp_16 H locs hH => ?_)
                obtain rfl := Option.some.inj hf
                exact r_iret hM hH (fun z hz => by cases hz; exact hp_16) ⟨(Nat.le_of_ble_eq_true rfl), (Nat.le_of_ble_eq_true rfl)⟩ dX8_count_118
              · have hf := gneg' h_15 hf
                by_cases h_18 : x1 = 7
                · refine r_tsIn (tgt := 119) hM.fx hr1 7 dX8_count_1 h_18 (by decide) rfl (by decide) ?_
                  have hf := gpos h_18 hf
                  refine lv_aload_n hM.fx.1 hM.fx.2.1 dX8_count_119 rfl (lv_at hl 0 rfl) ?_
                  refine r_getR hM.fx hM.kf hH hLC fl_X8_10 hg0 gch_8_0 dX8_count_120 ?_
                  obtain ⟨x_20, ex_20, hf⟩ := gbd hf
                  refine r_go1 hH rfl (r_runV (As := []) hM hH cv_X8_109 (mX0_allSteps hLC hM.ns (hLC.ch hg0 (by decide) gch_8_0) ex_20) (hLC.in (hLC.ch hg0 (by decide) gch_8_0) (by decide)) (by decide) rfl rfl rfl hl.1 rfl (Nat.le_of_ble_eq_true rfl) ⟨(Nat.le_of_ble_eq_true rfl), (Nat.le_of_ble_eq_true rfl)⟩ ⟨(Nat.le_of_ble_eq_true rfl), (Nat.le_of_ble_eq_true rfl)⟩ dX8_count_123) (fun hp_19 H locs hH => ?_)
                  obtain rfl := Option.some.inj hf
                  exact r_iret hM hH (fun z hz => by cases hz; exact hp_19) ⟨(Nat.le_of_ble_eq_true rfl), (Nat.le_of_ble_eq_true rfl)⟩ dX8_count_126
                · have hf := gneg' h_18 hf
                  by_cases h_21 : x1 = 8
                  · refine r_tsIn (tgt := 127) hM.fx hr1 8 dX8_count_1 h_21 (by decide) rfl (by decide) ?_
                    have hf := gpos h_21 hf
                    refine lv_aload_n hM.fx.1 hM.fx.2.1 dX8_count_127 rfl (lv_at hl 0 rfl) ?_
                    refine r_getR hM.fx hM.kf hH hLC fl_X8_10 hg0 gch_8_0 dX8_count_128 ?_
                    refine r_getR hM.fx hM.kf hH hLC fl_X8_113 (hLC.ch hg0 (by decide) gch_8_0) gch_1_3 dX8_count_131 ?_
                    obtain ⟨x_23, ex_23, hf⟩ := gbd hf
                    refine r_go1 hH rfl (r_runV (As := []) hM hH cv_X8_117 (mX2_size hLC hM.ns (hLC.ch (hLC.ch hg0 (by decide) gch_8_0) (by decide) gch_1_3) ex_23) (hLC.in (hLC.ch (hLC.ch hg0 (by decide) gch_8_0) (by decide) gch_1_3) (by decide)) (by decide) rfl rfl rfl hl.1 rfl (Nat.le_of_ble_eq_true rfl) ⟨(Nat.le_of_ble_eq_true rfl), (Nat.le_of_ble_eq_true rfl)⟩ ⟨(Nat.le_of_ble_eq_true rfl), (Nat.le_of_ble_eq_true rfl)⟩ dX8_count_134) (fun hp_22 H locs hH => ?_)
                    obtain rfl := Option.some.inj hf
                    exact r_iret hM hH (fun z hz => by cases hz; exact hp_22) ⟨(Nat.le_of_ble_eq_true rfl), (Nat.le_of_ble_eq_true rfl)⟩ dX8_count_137
                  · have hf := gneg' h_21 hf
                    by_cases h_24 : x1 = 9
                    · refine r_tsIn (tgt := 138) hM.fx hr1 9 dX8_count_1 h_24 (by decide) rfl (by decide) ?_
                      have hf := gpos h_24 hf
                      refine lv_aload_n hM.fx.1 hM.fx.2.1 dX8_count_138 rfl (lv_at hl 0 rfl) ?_
                      refine r_getR hM.fx hM.kf hH hLC fl_X8_10 hg0 gch_8_0 dX8_count_139 ?_
                      obtain ⟨x_26, ex_26, hf⟩ := gbd hf
                      refine r_go1 hH rfl (r_runV (As := []) hM hH cv_X8_122 (mX0_nextProc hLC hM.ns (hLC.ch hg0 (by decide) gch_8_0) ex_26) (hLC.in (hLC.ch hg0 (by decide) gch_8_0) (by decide)) (by decide) rfl rfl rfl hl.1 rfl (Nat.le_of_ble_eq_true rfl) ⟨(Nat.le_of_ble_eq_true rfl), (Nat.le_of_ble_eq_true rfl)⟩ ⟨(Nat.le_of_ble_eq_true rfl), (Nat.le_of_ble_eq_true rfl)⟩ dX8_count_142) (fun hp_25 H locs hH => ?_)
                      obtain rfl := Option.some.inj hf
                      exact r_iret hM hH (fun z hz => by cases hz; exact hp_25) ⟨(Nat.le_of_ble_eq_true rfl), (Nat.le_of_ble_eq_true rfl)⟩ dX8_count_145
                    · have hf := gneg' h_24 hf
                      by_cases h_27 : x1 = 10
                      · refine r_tsIn (tgt := 146) hM.fx hr1 10 dX8_count_1 h_27 (by decide) rfl (by decide) ?_
                        have hf := gpos h_27 hf
                        refine lv_aload_n hM.fx.1 hM.fx.2.1 dX8_count_146 rfl (lv_at hl 0 rfl) ?_
                        refine r_getR hM.fx hM.kf hH hLC fl_X8_10 hg0 gch_8_0 dX8_count_147 ?_
                        refine lv_iconst (v := gi (0)) hM.fx.1 hM.fx.2.1 dX8_count_150 rfl ?_
                        obtain ⟨x_29, ex_29, hf⟩ := gbd hf
                        refine r_go1 hH rfl (r_runV (As := [.int (gi 0)]) hM hH cv_X8_106 (mX0_countInState hLC hM.ns (hLC.ch hg0 (by decide) gch_8_0) (gcR (k := 0) (by decide)) ex_29) (hLC.in (hLC.ch hg0 (by decide) gch_8_0) (by decide)) (by decide) rfl rfl rfl hl.1 rfl (Nat.le_of_ble_eq_true rfl) ⟨(Nat.le_of_ble_eq_true rfl), (Nat.le_of_ble_eq_true rfl)⟩ ⟨(Nat.le_of_ble_eq_true rfl), (Nat.le_of_ble_eq_true rfl)⟩ dX8_count_151) (fun hp_28 H locs hH => ?_)
                        refine r_if_le (tgt := 171) hM.fx hp_28 dX8_count_154 (by decide) (fun h_30 => ?_) (fun h_30 => ?_)
                        · have hf := gpos h_30 hf
                          refine lv_iconst (v := gi (0)) hM.fx.1 hM.fx.2.1 dX8_count_171 rfl ?_
                          obtain rfl := Option.some.inj hf
                          exact r_iret hM hH (fun z hz => by cases hz; exact (gcR (k := 0) (by decide))) ⟨(Nat.le_of_ble_eq_true rfl), (Nat.le_of_ble_eq_true rfl)⟩ dX8_count_172
                        · have hf := gneg' h_30 hf
                          refine lv_aload_n hM.fx.1 hM.fx.2.1 dX8_count_157 rfl (lv_at hl 0 rfl) ?_
                          refine r_getR hM.fx hM.kf hH hLC fl_X8_10 hg0 gch_8_0 dX8_count_158 ?_
                          obtain ⟨x_32, ex_32, hf⟩ := gbd hf
                          refine r_go1 hH rfl (r_runS (As := [.ref (w.1 + (a0 + 1))]) hM hH cs_X8_125 (mX6_isOver hLC hM.ns (hLC.ch hg0 (by decide) gch_8_0) ex_32) rfl hl.1 rfl (Nat.le_of_ble_eq_true rfl) ⟨(Nat.le_of_ble_eq_true rfl), (Nat.le_of_ble_eq_true rfl)⟩ ⟨(Nat.le_of_ble_eq_true rfl), (Nat.le_of_ble_eq_true rfl)⟩ dX8_count_161) (fun hp_31 H locs hH => ?_)
                          refine r_if_eq (tgt := 171) hM.fx (gz_r hp_31) dX8_count_164 (by decide) (fun h_33 => ?_) (fun h_33 => ?_)
                          · have hf := gpos h_33 hf
                            refine lv_iconst (v := gi (0)) hM.fx.1 hM.fx.2.1 dX8_count_171 rfl ?_
                            obtain rfl := Option.some.inj hf
                            exact r_iret hM hH (fun z hz => by cases hz; exact (gcR (k := 0) (by decide))) ⟨(Nat.le_of_ble_eq_true rfl), (Nat.le_of_ble_eq_true rfl)⟩ dX8_count_172
                          · have hf := gneg' h_33 hf
                            refine lv_iconst (v := gi (1)) hM.fx.1 hM.fx.2.1 dX8_count_167 rfl ?_
                            refine lv_goto (tgt := 172) hM.fx.1 hM.fx.2.1 dX8_count_168 (by decide) ?_
                            obtain rfl := Option.some.inj hf
                            exact r_iret hM hH (fun z hz => by cases hz; exact (gcR (k := 1) (by decide))) ⟨(Nat.le_of_ble_eq_true rfl), (Nat.le_of_ble_eq_true rfl)⟩ dX8_count_172
                      · have hf := gneg' h_27 hf
                        refine r_tsOut (tgt := 173) hM.fx hr1 dX8_count_1 (by omega) (by decide) ?_
                        obtain rfl := Option.some.inj hf
                        exact r_throw (i := 22) (text := "no such number of the desk") hM hH th_X8_131_135 rfl hl.1 dX8_count_173 dX8_count_176 dX8_count_177 dX8_count_179 dX8_count_182 ⟨(Nat.le_of_ble_eq_true rfl), (Nat.le_of_ble_eq_true rfl), (Nat.le_of_ble_eq_true rfl), (Nat.le_of_ble_eq_true rfl)⟩ ⟨(Nat.le_of_ble_eq_true rfl), (Nat.le_of_ble_eq_true rfl)⟩
def fX8_existingProc (g : Nat → Nat) (a0 : Nat) (x1 : Int) (M : gMem) : Option (Nat ⊕ Nat) :=
  (fX0_procAt g (a0 + 1) x1 M).bind fun a_2 => if a_2 = 0 then (some (.inl 3)) else (some (.inr a_2))
set_option maxHeartbeats 4000000 in
set_option maxRecDepth 100000 in
theorem mX8_existingProc {w : gW} {n : Nat} {Rm : Nat → Nat → Nat} {g : Nat → Nat} (hLC : gLC g n Rm) {l : Launch} (hl9 : l.stackTraces = false) {a0 : Nat} {x1 : Int} {M : gMem} {r : (Nat ⊕ Nat)} (hg0 : g a0 = 8) (hr1 : gRI x1) (hf : fX8_existingProc g a0 x1 M = some r) : gMT w n Rm l yX8_existingProc cX8_existingProc 3 (some (.object "StackDesk$Proc")) 6 100 1 6 [.ref (w.1 + a0), .int (gi x1)] M (gOcT (fun z => some (.ref (w.1 + z))) r) M (∀ z, r = .inr z → (g z = 5)) := by
  unfold fX8_existingProc at hf
  refine gMT.of hl9 (by decide +kernel) ((Nat.le_of_ble_eq_true rfl)) ?_
  intro p e s m below meth c hM hH ls hl
  have hM : gMC w p l s m ([.ref (w.1 + a0), .int (gi x1)] : List Value).toArray meth c cX8_existingProc 3 RX8 (some (.object "StackDesk$Proc")) := hM
  have hl : lv_has ls 3 [(0, .ref (w.1 + a0)), (1, .int (gi x1))] := hl
  refine lv_aload_n hM.fx.1 hM.fx.2.1 dX8_existingProc_0 rfl (lv_at hl 0 rfl) ?_
  refine r_getR hM.fx hM.kf hH hLC fl_X8_10 hg0 gch_8_0 dX8_existingProc_1 ?_
  refine lv_iload_n hM.fx.1 hM.fx.2.1 dX8_existingProc_4 rfl (lv_at hl 1 rfl) ?_
  obtain ⟨a_2, ea_2, hf⟩ := gbd hf
  refine r_go1 hH rfl (r_runV (As := [.int (gi x1)]) hM hH cv_X8_238 (mX0_procAt hLC hM.ns (hLC.ch hg0 (by decide) gch_8_0) hr1 ea_2) (hLC.in (hLC.ch hg0 (by decide) gch_8_0) (by decide)) (by decide) rfl rfl rfl hl.1 rfl (Nat.le_of_ble_eq_true rfl) ⟨(Nat.le_of_ble_eq_true rfl), (Nat.le_of_ble_eq_true rfl)⟩ ⟨(Nat.le_of_ble_eq_true rfl), (Nat.le_of_ble_eq_true rfl)⟩ dX8_existingProc_5) (fun hp_1 H locs hH => ?_)
  refine r_astore_nV (lv' := [(2, gvR w a_2), (0, .ref (w.1 + a0)), (1, .int (gi x1))]) hM.fx dX8_existingProc_8 rfl hl (by decide) rfl (fun ls hl => ?_)
  refine r_aload_nV hM.fx dX8_existingProc_9 rfl (lv_at hl 0 rfl) ?_
  refine r_ifnonnull (tgt := 24) hM.fx dX8_existingProc_10 (by decide) (fun h_3 => ?_) (fun h_3 => ?_)
  · have hf := gneg' h_3 hf
    rw [gvR_nn h_3] at hl
    refine lv_aload_n hM.fx.1 hM.fx.2.1 dX8_existingProc_24 rfl (lv_at hl 0 rfl) ?_
    obtain rfl := Option.some.inj hf
    exact r_aretV hM hH (Or.inr ⟨_, rfl⟩) (fun z hz => by cases hz; exact (hp_1 h_3)) ⟨(Nat.le_of_ble_eq_true rfl), (Nat.le_of_ble_eq_true rfl)⟩ dX8_existingProc_25
  · have hf := gpos h_3 hf
    obtain rfl := Option.some.inj hf
    exact r_throwW (i := 23) (text := "no such process") hM hH th_X8_209_213 rfl hl.1 dX8_existingProc_13 dX8_existingProc_16 dX8_existingProc_17 dX8_existingProc_20 dX8_existingProc_23 ⟨(Nat.le_of_ble_eq_true rfl), (Nat.le_of_ble_eq_true rfl), (Nat.le_of_ble_eq_true rfl), (Nat.le_of_ble_eq_true rfl)⟩ ⟨(Nat.le_of_ble_eq_true rfl), (Nat.le_of_ble_eq_true rfl)⟩
def fX8_process (g : Nat → Nat) (a0 : Nat) (x1 : Int) (x2 : Int) (M : gMem) : Option (Nat ⊕ Int) :=
  gtry (fX8_existingProc g a0 x1 M) (fun e_2 => some (.inl e_2)) fun a_3 => if x2 = 0 then (some (.inr (M a_3 8))) else (if x2 = 1 then (some (.inr (M a_3 9))) else (if x2 = 2 then (some (.inr (M a_3 7))) else (if x2 = 3 then (some (.inr (M a_3 10))) else (if x2 = 4 then (some (.inr (M a_3 4))) else (if x2 = 5 then (some (.inr (M a_3 5))) else (if x2 = 6 then (some (.inr (M a_3 6))) else (if x2 = 7 then (some (.inr (M a_3 11))) else (if x2 = 8 then (some (.inr (M a_3 12))) else (if x2 = 9 then (some (.inr (M a_3 13))) else (if x2 = 10 then (some (.inr (M a_3 14))) else (some (.inl 2))))))))))))
set_option maxHeartbeats 4000000 in
set_option maxRecDepth 100000 in
theorem mX8_process {w : gW} {n : Nat} {Rm : Nat → Nat → Nat} {g : Nat → Nat} (hLC : gLC g n Rm) {l : Launch} (hl9 : l.stackTraces = false) {a0 : Nat} {x1 : Int} {x2 : Int} {M : gMem} {r : (Nat ⊕ Int)} (hg0 : g a0 = 8) (hr1 : gRI x1) (hr2 : gRI x2) (hf : fX8_process g a0 x1 x2 M = some r) : gMT w n Rm l yX8_process cX8_process 4 (some .int) 7 122 2 12 [.ref (w.1 + a0), .int (gi x1), .int (gi x2)] M (gOcT (fun z => some (.int (gi z))) r) M (∀ z, r = .inr z → (gRI z)) := by
  unfold fX8_process at hf
  refine gMT.of hl9 (by decide +kernel) ((Nat.le_of_ble_eq_true rfl)) ?_
  intro p e s m below meth c hM hH ls hl
  have hM : gMC w p l s m ([.ref (w.1 + a0), .int (gi x1), .int (gi x2)] : List Value).toArray meth c cX8_process 4 RX8 (some .int) := hM
  have hl : lv_has ls 4 [(0, .ref (w.1 + a0)), (1, .int (gi x1)), (2, .int (gi x2))] := hl
  refine lv_aload_n hM.fx.1 hM.fx.2.1 dX8_process_0 rfl (lv_at hl 0 rfl) ?_
  refine lv_iload_n hM.fx.1 hM.fx.2.1 dX8_process_1 rfl (lv_at hl 1 rfl) ?_
  rcases gtry_s hf with ⟨e_2, qe_2, hf⟩ | ⟨a_3, qa_3, hf⟩
  · obtain rfl := Option.some.inj hf
    exact r_goX hM hH rfl (r_runV (As := [.int (gi x1)]) hM hH cv_X8_136 (mX8_existingProc hLC hM.ns hg0 hr1 qe_2) (hLC.in hg0 (by decide)) (by decide) rfl rfl rfl hl.1 rfl (Nat.le_of_ble_eq_true rfl) ⟨(Nat.le_of_ble_eq_true rfl), (Nat.le_of_ble_eq_true rfl)⟩ ⟨(Nat.le_of_ble_eq_true rfl), (Nat.le_of_ble_eq_true rfl)⟩ dX8_process_2) ⟨(Nat.le_of_ble_eq_true rfl), (Nat.le_of_ble_eq_true rfl)⟩
  refine r_go1 hH rfl (r_runV (As := [.int (gi x1)]) hM hH cv_X8_136 (mX8_existingProc hLC hM.ns hg0 hr1 qa_3) (hLC.in hg0 (by decide)) (by decide) rfl rfl rfl hl.1 rfl (Nat.le_of_ble_eq_true rfl) ⟨(Nat.le_of_ble_eq_true rfl), (Nat.le_of_ble_eq_true rfl)⟩ ⟨(Nat.le_of_ble_eq_true rfl), (Nat.le_of_ble_eq_true rfl)⟩ dX8_process_2) (fun hp_1 H locs hH => ?_)
  refine lv_astore_n (lv' := [(3, .ref (w.1 + a_3)), (0, .ref (w.1 + a0)), (1, .int (gi x1)), (2, .int (gi x2))]) hM.fx.1 hM.fx.2.1 dX8_process_5 rfl hl (by decide) rfl (fun ls hl => ?_)
  refine lv_iload_n hM.fx.1 hM.fx.2.1 dX8_process_6 rfl (lv_at hl 3 rfl) ?_
  by_cases h_4 : x2 = 0
  · refine r_tsIn (tgt := 64) hM.fx hr2 0 dX8_process_7 h_4 (by decide) rfl (by decide) ?_
    have hf := gpos h_4 hf
    refine lv_aload_n hM.fx.1 hM.fx.2.1 dX8_process_64 rfl (lv_at hl 0 rfl) ?_
    refine r_getI hM.fx hM.kf hH fl_X8_140 (hLC.in (hp_1 _ rfl) (by decide)) dX8_process_65 ?_
    have hr_5 := hH.2.2.i (hLC.in (hp_1 _ rfl) (by decide)).2.2 (by decide : glg 5 8 = false)
    obtain rfl := Option.some.inj hf
    exact r_iret hM hH (fun z hz => by cases hz; exact hr_5) ⟨(Nat.le_of_ble_eq_true rfl), (Nat.le_of_ble_eq_true rfl)⟩ dX8_process_68
  · have hf := gneg' h_4 hf
    by_cases h_6 : x2 = 1
    · refine r_tsIn (tgt := 69) hM.fx hr2 1 dX8_process_7 h_6 (by decide) rfl (by decide) ?_
      have hf := gpos h_6 hf
      refine lv_aload_n hM.fx.1 hM.fx.2.1 dX8_process_69 rfl (lv_at hl 0 rfl) ?_
      refine r_getI hM.fx hM.kf hH fl_X8_145 (hLC.in (hp_1 _ rfl) (by decide)) dX8_process_70 ?_
      have hr_7 := hH.2.2.i (hLC.in (hp_1 _ rfl) (by decide)).2.2 (by decide : glg 5 9 = false)
      obtain rfl := Option.some.inj hf
      exact r_iret hM hH (fun z hz => by cases hz; exact hr_7) ⟨(Nat.le_of_ble_eq_true rfl), (Nat.le_of_ble_eq_true rfl)⟩ dX8_process_73
    · have hf := gneg' h_6 hf
      by_cases h_8 : x2 = 2
      · refine r_tsIn (tgt := 74) hM.fx hr2 2 dX8_process_7 h_8 (by decide) rfl (by decide) ?_
        have hf := gpos h_8 hf
        refine lv_aload_n hM.fx.1 hM.fx.2.1 dX8_process_74 rfl (lv_at hl 0 rfl) ?_
        refine r_getI hM.fx hM.kf hH fl_X8_148 (hLC.in (hp_1 _ rfl) (by decide)) dX8_process_75 ?_
        have hr_9 := hH.2.2.i (hLC.in (hp_1 _ rfl) (by decide)).2.2 (by decide : glg 5 7 = false)
        obtain rfl := Option.some.inj hf
        exact r_iret hM hH (fun z hz => by cases hz; exact hr_9) ⟨(Nat.le_of_ble_eq_true rfl), (Nat.le_of_ble_eq_true rfl)⟩ dX8_process_78
      · have hf := gneg' h_8 hf
        by_cases h_10 : x2 = 3
        · refine r_tsIn (tgt := 79) hM.fx hr2 3 dX8_process_7 h_10 (by decide) rfl (by decide) ?_
          have hf := gpos h_10 hf
          refine lv_aload_n hM.fx.1 hM.fx.2.1 dX8_process_79 rfl (lv_at hl 0 rfl) ?_
          refine r_getI hM.fx hM.kf hH fl_X8_151 (hLC.in (hp_1 _ rfl) (by decide)) dX8_process_80 ?_
          have hr_11 := hH.2.2.i (hLC.in (hp_1 _ rfl) (by decide)).2.2 (by decide : glg 5 10 = false)
          obtain rfl := Option.some.inj hf
          exact r_iret hM hH (fun z hz => by cases hz; exact hr_11) ⟨(Nat.le_of_ble_eq_true rfl), (Nat.le_of_ble_eq_true rfl)⟩ dX8_process_83
        · have hf := gneg' h_10 hf
          by_cases h_12 : x2 = 4
          · refine r_tsIn (tgt := 84) hM.fx hr2 4 dX8_process_7 h_12 (by decide) rfl (by decide) ?_
            have hf := gpos h_12 hf
            refine lv_aload_n hM.fx.1 hM.fx.2.1 dX8_process_84 rfl (lv_at hl 0 rfl) ?_
            refine r_getI hM.fx hM.kf hH fl_X8_154 (hLC.in (hp_1 _ rfl) (by decide)) dX8_process_85 ?_
            have hr_13 := hH.2.2.i (hLC.in (hp_1 _ rfl) (by decide)).2.2 (by decide : glg 5 4 = false)
            obtain rfl := Option.some.inj hf
            exact r_iret hM hH (fun z hz => by cases hz; exact hr_13) ⟨(Nat.le_of_ble_eq_true rfl), (Nat.le_of_ble_eq_true rfl)⟩ dX8_process_88
          · have hf := gneg' h_12 hf
            by_cases h_14 : x2 = 5
            · refine r_tsIn (tgt := 89) hM.fx hr2 5 dX8_process_7 h_14 (by decide) rfl (by decide) ?_
              have hf := gpos h_14 hf
              refine lv_aload_n hM.fx.1 hM.fx.2.1 dX8_process_89 rfl (lv_at hl 0 rfl) ?_
              refine r_getI hM.fx hM.kf hH fl_X8_157 (hLC.in (hp_1 _ rfl) (by decide)) dX8_process_90 ?_
              have hr_15 := hH.2.2.i (hLC.in (hp_1 _ rfl) (by decide)).2.2 (by decide : glg 5 5 = false)
              obtain rfl := Option.some.inj hf
              exact r_iret hM hH (fun z hz => by cases hz; exact hr_15) ⟨(Nat.le_of_ble_eq_true rfl), (Nat.le_of_ble_eq_true rfl)⟩ dX8_process_93
            · have hf := gneg' h_14 hf
              by_cases h_16 : x2 = 6
              · refine r_tsIn (tgt := 94) hM.fx hr2 6 dX8_process_7 h_16 (by decide) rfl (by decide) ?_
                have hf := gpos h_16 hf
                refine lv_aload_n hM.fx.1 hM.fx.2.1 dX8_process_94 rfl (lv_at hl 0 rfl) ?_
                refine r_getI hM.fx hM.kf hH fl_X8_160 (hLC.in (hp_1 _ rfl) (by decide)) dX8_process_95 ?_
                have hr_17 := hH.2.2.i (hLC.in (hp_1 _ rfl) (by decide)).2.2 (by decide : glg 5 6 = false)
                obtain rfl := Option.some.inj hf
                exact r_iret hM hH (fun z hz => by cases hz; exact hr_17) ⟨(Nat.le_of_ble_eq_true rfl), (Nat.le_of_ble_eq_true rfl)⟩ dX8_process_98
              · have hf := gneg' h_16 hf
                by_cases h_18 : x2 = 7
                · refine r_tsIn (tgt := 99) hM.fx hr2 7 dX8_process_7 h_18 (by decide) rfl (by decide) ?_
                  have hf := gpos h_18 hf
                  refine lv_aload_n hM.fx.1 hM.fx.2.1 dX8_process_99 rfl (lv_at hl 0 rfl) ?_
                  refine r_getI hM.fx hM.kf hH fl_X8_163 (hLC.in (hp_1 _ rfl) (by decide)) dX8_process_100 ?_
                  have hr_19 := hH.2.2.i (hLC.in (hp_1 _ rfl) (by decide)).2.2 (by decide : glg 5 11 = false)
                  obtain rfl := Option.some.inj hf
                  exact r_iret hM hH (fun z hz => by cases hz; exact hr_19) ⟨(Nat.le_of_ble_eq_true rfl), (Nat.le_of_ble_eq_true rfl)⟩ dX8_process_103
                · have hf := gneg' h_18 hf
                  by_cases h_20 : x2 = 8
                  · refine r_tsIn (tgt := 104) hM.fx hr2 8 dX8_process_7 h_20 (by decide) rfl (by decide) ?_
                    have hf := gpos h_20 hf
                    refine lv_aload_n hM.fx.1 hM.fx.2.1 dX8_process_104 rfl (lv_at hl 0 rfl) ?_
                    refine r_getI hM.fx hM.kf hH fl_X8_164 (hLC.in (hp_1 _ rfl) (by decide)) dX8_process_105 ?_
                    have hr_21 := hH.2.2.i (hLC.in (hp_1 _ rfl) (by decide)).2.2 (by decide : glg 5 12 = false)
                    obtain rfl := Option.some.inj hf
                    exact r_iret hM hH (fun z hz => by cases hz; exact hr_21) ⟨(Nat.le_of_ble_eq_true rfl), (Nat.le_of_ble_eq_true rfl)⟩ dX8_process_108
                  · have hf := gneg' h_20 hf
                    by_cases h_22 : x2 = 9
                    · refine r_tsIn (tgt := 109) hM.fx hr2 9 dX8_process_7 h_22 (by decide) rfl (by decide) ?_
                      have hf := gpos h_22 hf
                      refine lv_aload_n hM.fx.1 hM.fx.2.1 dX8_process_109 rfl (lv_at hl 0 rfl) ?_
                      refine r_getI hM.fx hM.kf hH fl_X8_167 (hLC.in (hp_1 _ rfl) (by decide)) dX8_process_110 ?_
                      have hr_23 := hH.2.2.i (hLC.in (hp_1 _ rfl) (by decide)).2.2 (by decide : glg 5 13 = false)
                      obtain rfl := Option.some.inj hf
                      exact r_iret hM hH (fun z hz => by cases hz; exact hr_23) ⟨(Nat.le_of_ble_eq_true rfl), (Nat.le_of_ble_eq_true rfl)⟩ dX8_process_113
                    · have hf := gneg' h_22 hf
                      by_cases h_24 : x2 = 10
                      · refine r_tsIn (tgt := 114) hM.fx hr2 10 dX8_process_7 h_24 (by decide) rfl (by decide) ?_
                        have hf := gpos h_24 hf
                        refine lv_aload_n hM.fx.1 hM.fx.2.1 dX8_process_114 rfl (lv_at hl 0 rfl) ?_
                        refine r_getI hM.fx hM.kf hH fl_X8_170 (hLC.in (hp_1 _ rfl) (by decide)) dX8_process_115 ?_
                        have hr_25 := hH.2.2.i (hLC.in (hp_1 _ rfl) (by decide)).2.2 (by decide : glg 5 14 = false)
                        obtain rfl := Option.some.inj hf
                        exact r_iret hM hH (fun z hz => by cases hz; exact hr_25) ⟨(Nat.le_of_ble_eq_true rfl), (Nat.le_of_ble_eq_true rfl)⟩ dX8_process_118
                      · have hf := gneg' h_24 hf
                        refine r_tsOut (tgt := 119) hM.fx hr2 dX8_process_7 (by omega) (by decide) ?_
                        obtain rfl := Option.some.inj hf
                        exact r_throw (i := 24) (text := "no such number of a process") hM hH th_X8_131_135 rfl hl.1 dX8_process_119 dX8_process_122 dX8_process_123 dX8_process_125 dX8_process_128 ⟨(Nat.le_of_ble_eq_true rfl), (Nat.le_of_ble_eq_true rfl), (Nat.le_of_ble_eq_true rfl), (Nat.le_of_ble_eq_true rfl)⟩ ⟨(Nat.le_of_ble_eq_true rfl), (Nat.le_of_ble_eq_true rfl)⟩
def fX8_existingPile (g : Nat → Nat) (a0 : Nat) (x1 : Int) (M : gMem) : Option (Nat ⊕ Nat) :=
  (fX0_pileAt g (a0 + 1) x1 M).bind fun a_2 => if a_2 = 0 then (some (.inl 3)) else (some (.inr a_2))
set_option maxHeartbeats 4000000 in
set_option maxRecDepth 100000 in
theorem mX8_existingPile {w : gW} {n : Nat} {Rm : Nat → Nat → Nat} {g : Nat → Nat} (hLC : gLC g n Rm) {l : Launch} (hl9 : l.stackTraces = false) {a0 : Nat} {x1 : Int} {M : gMem} {r : (Nat ⊕ Nat)} (hg0 : g a0 = 8) (hr1 : gRI x1) (hf : fX8_existingPile g a0 x1 M = some r) : gMT w n Rm l yX8_existingPile cX8_existingPile 3 (some (.object "StackDesk$Pile")) 6 100 1 6 [.ref (w.1 + a0), .int (gi x1)] M (gOcT (fun z => some (.ref (w.1 + z))) r) M (∀ z, r = .inr z → (g z = 4)) := by
  unfold fX8_existingPile at hf
  refine gMT.of hl9 (by decide +kernel) ((Nat.le_of_ble_eq_true rfl)) ?_
  intro p e s m below meth c hM hH ls hl
  have hM : gMC w p l s m ([.ref (w.1 + a0), .int (gi x1)] : List Value).toArray meth c cX8_existingPile 3 RX8 (some (.object "StackDesk$Pile")) := hM
  have hl : lv_has ls 3 [(0, .ref (w.1 + a0)), (1, .int (gi x1))] := hl
  refine lv_aload_n hM.fx.1 hM.fx.2.1 dX8_existingPile_0 rfl (lv_at hl 0 rfl) ?_
  refine r_getR hM.fx hM.kf hH hLC fl_X8_10 hg0 gch_8_0 dX8_existingPile_1 ?_
  refine lv_iload_n hM.fx.1 hM.fx.2.1 dX8_existingPile_4 rfl (lv_at hl 1 rfl) ?_
  obtain ⟨a_2, ea_2, hf⟩ := gbd hf
  refine r_go1 hH rfl (r_runV (As := [.int (gi x1)]) hM hH cv_X8_255 (mX0_pileAt hLC hM.ns (hLC.ch hg0 (by decide) gch_8_0) hr1 ea_2) (hLC.in (hLC.ch hg0 (by decide) gch_8_0) (by decide)) (by decide) rfl rfl rfl hl.1 rfl (Nat.le_of_ble_eq_true rfl) ⟨(Nat.le_of_ble_eq_true rfl), (Nat.le_of_ble_eq_true rfl)⟩ ⟨(Nat.le_of_ble_eq_true rfl), (Nat.le_of_ble_eq_true rfl)⟩ dX8_existingPile_5) (fun hp_1 H locs hH => ?_)
  refine r_astore_nV (lv' := [(2, gvR w a_2), (0, .ref (w.1 + a0)), (1, .int (gi x1))]) hM.fx dX8_existingPile_8 rfl hl (by decide) rfl (fun ls hl => ?_)
  refine r_aload_nV hM.fx dX8_existingPile_9 rfl (lv_at hl 0 rfl) ?_
  refine r_ifnonnull (tgt := 24) hM.fx dX8_existingPile_10 (by decide) (fun h_3 => ?_) (fun h_3 => ?_)
  · have hf := gneg' h_3 hf
    rw [gvR_nn h_3] at hl
    refine lv_aload_n hM.fx.1 hM.fx.2.1 dX8_existingPile_24 rfl (lv_at hl 0 rfl) ?_
    obtain rfl := Option.some.inj hf
    exact r_aretV hM hH (Or.inr ⟨_, rfl⟩) (fun z hz => by cases hz; exact (hp_1 h_3)) ⟨(Nat.le_of_ble_eq_true rfl), (Nat.le_of_ble_eq_true rfl)⟩ dX8_existingPile_25
  · have hf := gpos h_3 hf
    obtain rfl := Option.some.inj hf
    exact r_throwW (i := 25) (text := "no such stack") hM hH th_X8_209_213 rfl hl.1 dX8_existingPile_13 dX8_existingPile_16 dX8_existingPile_17 dX8_existingPile_20 dX8_existingPile_23 ⟨(Nat.le_of_ble_eq_true rfl), (Nat.le_of_ble_eq_true rfl), (Nat.le_of_ble_eq_true rfl), (Nat.le_of_ble_eq_true rfl)⟩ ⟨(Nat.le_of_ble_eq_true rfl), (Nat.le_of_ble_eq_true rfl)⟩
def fX8_stack (g : Nat → Nat) (a0 : Nat) (x1 : Int) (x2 : Int) (M : gMem) : Option (Nat ⊕ Int) :=
  gtry (fX8_existingPile g a0 x1 M) (fun e_2 => some (.inl e_2)) fun a_3 => if x2 = 0 then (some (.inr (M a_3 2))) else (if x2 = 1 then (some (.inr (M a_3 1))) else (if x2 = 2 then (some (.inr (M a_3 3))) else (if x2 = 3 then (some (.inr (M a_3 4))) else (if x2 = 4 then (some (.inr (M a_3 5))) else (some (.inl 2))))))
set_option maxHeartbeats 4000000 in
set_option maxRecDepth 100000 in
theorem mX8_stack {w : gW} {n : Nat} {Rm : Nat → Nat → Nat} {g : Nat → Nat} (hLC : gLC g n Rm) {l : Launch} (hl9 : l.stackTraces = false) {a0 : Nat} {x1 : Int} {x2 : Int} {M : gMem} {r : (Nat ⊕ Int)} (hg0 : g a0 = 8) (hr1 : gRI x1) (hr2 : gRI x2) (hf : fX8_stack g a0 x1 x2 M = some r) : gMT w n Rm l yX8_stack cX8_stack 4 (some .int) 7 122 2 12 [.ref (w.1 + a0), .int (gi x1), .int (gi x2)] M (gOcT (fun z => some (.int (gi z))) r) M (∀ z, r = .inr z → (gRI z)) := by
  unfold fX8_stack at hf
  refine gMT.of hl9 (by decide +kernel) ((Nat.le_of_ble_eq_true rfl)) ?_
  intro p e s m below meth c hM hH ls hl
  have hM : gMC w p l s m ([.ref (w.1 + a0), .int (gi x1), .int (gi x2)] : List Value).toArray meth c cX8_stack 4 RX8 (some .int) := hM
  have hl : lv_has ls 4 [(0, .ref (w.1 + a0)), (1, .int (gi x1)), (2, .int (gi x2))] := hl
  refine lv_aload_n hM.fx.1 hM.fx.2.1 dX8_stack_0 rfl (lv_at hl 0 rfl) ?_
  refine lv_iload_n hM.fx.1 hM.fx.2.1 dX8_stack_1 rfl (lv_at hl 1 rfl) ?_
  rcases gtry_s hf with ⟨e_2, qe_2, hf⟩ | ⟨a_3, qa_3, hf⟩
  · obtain rfl := Option.some.inj hf
    exact r_goX hM hH rfl (r_runV (As := [.int (gi x1)]) hM hH cv_X8_175 (mX8_existingPile hLC hM.ns hg0 hr1 qe_2) (hLC.in hg0 (by decide)) (by decide) rfl rfl rfl hl.1 rfl (Nat.le_of_ble_eq_true rfl) ⟨(Nat.le_of_ble_eq_true rfl), (Nat.le_of_ble_eq_true rfl)⟩ ⟨(Nat.le_of_ble_eq_true rfl), (Nat.le_of_ble_eq_true rfl)⟩ dX8_stack_2) ⟨(Nat.le_of_ble_eq_true rfl), (Nat.le_of_ble_eq_true rfl)⟩
  refine r_go1 hH rfl (r_runV (As := [.int (gi x1)]) hM hH cv_X8_175 (mX8_existingPile hLC hM.ns hg0 hr1 qa_3) (hLC.in hg0 (by decide)) (by decide) rfl rfl rfl hl.1 rfl (Nat.le_of_ble_eq_true rfl) ⟨(Nat.le_of_ble_eq_true rfl), (Nat.le_of_ble_eq_true rfl)⟩ ⟨(Nat.le_of_ble_eq_true rfl), (Nat.le_of_ble_eq_true rfl)⟩ dX8_stack_2) (fun hp_1 H locs hH => ?_)
  refine lv_astore_n (lv' := [(3, .ref (w.1 + a_3)), (0, .ref (w.1 + a0)), (1, .int (gi x1)), (2, .int (gi x2))]) hM.fx.1 hM.fx.2.1 dX8_stack_5 rfl hl (by decide) rfl (fun ls hl => ?_)
  refine lv_iload_n hM.fx.1 hM.fx.2.1 dX8_stack_6 rfl (lv_at hl 3 rfl) ?_
  by_cases h_4 : x2 = 0
  · refine r_tsIn (tgt := 40) hM.fx hr2 0 dX8_stack_7 h_4 (by decide) rfl (by decide) ?_
    have hf := gpos h_4 hf
    refine lv_aload_n hM.fx.1 hM.fx.2.1 dX8_stack_40 rfl (lv_at hl 0 rfl) ?_
    refine r_getI hM.fx hM.kf hH fl_X8_179 (hLC.in (hp_1 _ rfl) (by decide)) dX8_stack_41 ?_
    have hr_5 := hH.2.2.i (hLC.in (hp_1 _ rfl) (by decide)).2.2 (by decide : glg 4 2 = false)
    obtain rfl := Option.some.inj hf
    exact r_iret hM hH (fun z hz => by cases hz; exact hr_5) ⟨(Nat.le_of_ble_eq_true rfl), (Nat.le_of_ble_eq_true rfl)⟩ dX8_stack_44
  · have hf := gneg' h_4 hf
    by_cases h_6 : x2 = 1
    · refine r_tsIn (tgt := 45) hM.fx hr2 1 dX8_stack_7 h_6 (by decide) rfl (by decide) ?_
      have hf := gpos h_6 hf
      refine lv_aload_n hM.fx.1 hM.fx.2.1 dX8_stack_45 rfl (lv_at hl 0 rfl) ?_
      refine r_getI hM.fx hM.kf hH fl_X8_184 (hLC.in (hp_1 _ rfl) (by decide)) dX8_stack_46 ?_
      have hr_7 := hH.2.2.i (hLC.in (hp_1 _ rfl) (by decide)).2.2 (by decide : glg 4 1 = false)
      obtain rfl := Option.some.inj hf
      exact r_iret hM hH (fun z hz => by cases hz; exact hr_7) ⟨(Nat.le_of_ble_eq_true rfl), (Nat.le_of_ble_eq_true rfl)⟩ dX8_stack_49
    · have hf := gneg' h_6 hf
      by_cases h_8 : x2 = 2
      · refine r_tsIn (tgt := 50) hM.fx hr2 2 dX8_stack_7 h_8 (by decide) rfl (by decide) ?_
        have hf := gpos h_8 hf
        refine lv_aload_n hM.fx.1 hM.fx.2.1 dX8_stack_50 rfl (lv_at hl 0 rfl) ?_
        refine r_getI hM.fx hM.kf hH fl_X8_186 (hLC.in (hp_1 _ rfl) (by decide)) dX8_stack_51 ?_
        have hr_9 := hH.2.2.i (hLC.in (hp_1 _ rfl) (by decide)).2.2 (by decide : glg 4 3 = false)
        obtain rfl := Option.some.inj hf
        exact r_iret hM hH (fun z hz => by cases hz; exact hr_9) ⟨(Nat.le_of_ble_eq_true rfl), (Nat.le_of_ble_eq_true rfl)⟩ dX8_stack_54
      · have hf := gneg' h_8 hf
        by_cases h_10 : x2 = 3
        · refine r_tsIn (tgt := 55) hM.fx hr2 3 dX8_stack_7 h_10 (by decide) rfl (by decide) ?_
          have hf := gpos h_10 hf
          refine lv_aload_n hM.fx.1 hM.fx.2.1 dX8_stack_55 rfl (lv_at hl 0 rfl) ?_
          refine r_getI hM.fx hM.kf hH fl_X8_189 (hLC.in (hp_1 _ rfl) (by decide)) dX8_stack_56 ?_
          have hr_11 := hH.2.2.i (hLC.in (hp_1 _ rfl) (by decide)).2.2 (by decide : glg 4 4 = false)
          obtain rfl := Option.some.inj hf
          exact r_iret hM hH (fun z hz => by cases hz; exact hr_11) ⟨(Nat.le_of_ble_eq_true rfl), (Nat.le_of_ble_eq_true rfl)⟩ dX8_stack_59
        · have hf := gneg' h_10 hf
          by_cases h_12 : x2 = 4
          · refine r_tsIn (tgt := 60) hM.fx hr2 4 dX8_stack_7 h_12 (by decide) rfl (by decide) ?_
            have hf := gpos h_12 hf
            refine lv_aload_n hM.fx.1 hM.fx.2.1 dX8_stack_60 rfl (lv_at hl 0 rfl) ?_
            refine r_getI hM.fx hM.kf hH fl_X8_192 (hLC.in (hp_1 _ rfl) (by decide)) dX8_stack_61 ?_
            have hr_13 := hH.2.2.i (hLC.in (hp_1 _ rfl) (by decide)).2.2 (by decide : glg 4 5 = false)
            obtain rfl := Option.some.inj hf
            exact r_iret hM hH (fun z hz => by cases hz; exact hr_13) ⟨(Nat.le_of_ble_eq_true rfl), (Nat.le_of_ble_eq_true rfl)⟩ dX8_stack_64
          · have hf := gneg' h_12 hf
            refine r_tsOut (tgt := 65) hM.fx hr2 dX8_stack_7 (by omega) (by decide) ?_
            obtain rfl := Option.some.inj hf
            exact r_throw (i := 26) (text := "no such number of a stack") hM hH th_X8_131_135 rfl hl.1 dX8_stack_65 dX8_stack_68 dX8_stack_69 dX8_stack_71 dX8_stack_74 ⟨(Nat.le_of_ble_eq_true rfl), (Nat.le_of_ble_eq_true rfl), (Nat.le_of_ble_eq_true rfl), (Nat.le_of_ble_eq_true rfl)⟩ ⟨(Nat.le_of_ble_eq_true rfl), (Nat.le_of_ble_eq_true rfl)⟩
def fX8_number (g : Nat → Nat) (a0 : Nat) (x1 : Int) (x2 : Int) (M : gMem) : Option (Nat ⊕ Int) :=
  gtry (fX8_existingPile g a0 x1 M) (fun e_2 => some (.inl e_2)) fun a_3 => (fX3_numberAt g a_3 x2 M).bind fun x_5 => some (.inr x_5)
set_option maxHeartbeats 4000000 in
set_option maxRecDepth 100000 in
theorem mX8_number {w : gW} {n : Nat} {Rm : Nat → Nat → Nat} {g : Nat → Nat} (hLC : gLC g n Rm) {l : Launch} (hl9 : l.stackTraces = false) {a0 : Nat} {x1 : Int} {x2 : Int} {M : gMem} {r : (Nat ⊕ Int)} (hg0 : g a0 = 8) (hr1 : gRI x1) (hr2 : gRI x2) (hf : fX8_number g a0 x1 x2 M = some r) : gMT w n Rm l yX8_number cX8_number 3 (some .int) 7 122 1 6 [.ref (w.1 + a0), .int (gi x1), .int (gi x2)] M (gOcT (fun z => some (.int (gi z))) r) M (∀ z, r = .inr z → (gRI z)) := by
  unfold fX8_number at hf
  refine gMT.of hl9 (by decide +kernel) ((Nat.le_of_ble_eq_true rfl)) ?_
  intro p e s m below meth c hM hH ls hl
  have hM : gMC w p l s m ([.ref (w.1 + a0), .int (gi x1), .int (gi x2)] : List Value).toArray meth c cX8_number 3 RX8 (some .int) := hM
  have hl : lv_has ls 3 [(0, .ref (w.1 + a0)), (1, .int (gi x1)), (2, .int (gi x2))] := hl
  refine lv_aload_n hM.fx.1 hM.fx.2.1 dX8_number_0 rfl (lv_at hl 0 rfl) ?_
  refine lv_iload_n hM.fx.1 hM.fx.2.1 dX8_number_1 rfl (lv_at hl 1 rfl) ?_
  rcases gtry_s hf with ⟨e_2, qe_2, hf⟩ | ⟨a_3, qa_3, hf⟩
  · obtain rfl := Option.some.inj hf
    exact r_goX hM hH rfl (r_runV (As := [.int (gi x1)]) hM hH cv_X8_175 (mX8_existingPile hLC hM.ns hg0 hr1 qe_2) (hLC.in hg0 (by decide)) (by decide) rfl rfl rfl hl.1 rfl (Nat.le_of_ble_eq_true rfl) ⟨(Nat.le_of_ble_eq_true rfl), (Nat.le_of_ble_eq_true rfl)⟩ ⟨(Nat.le_of_ble_eq_true rfl), (Nat.le_of_ble_eq_true rfl)⟩ dX8_number_2) ⟨(Nat.le_of_ble_eq_true rfl), (Nat.le_of_ble_eq_true rfl)⟩
  refine r_go1 hH rfl (r_runV (As := [.int (gi x1)]) hM hH cv_X8_175 (mX8_existingPile hLC hM.ns hg0 hr1 qa_3) (hLC.in hg0 (by decide)) (by decide) rfl rfl rfl hl.1 rfl (Nat.le_of_ble_eq_true rfl) ⟨(Nat.le_of_ble_eq_true rfl), (Nat.le_of_ble_eq_true rfl)⟩ ⟨(Nat.le_of_ble_eq_true rfl), (Nat.le_of_ble_eq_true rfl)⟩ dX8_number_2) (fun hp_1 H locs hH => ?_)
  refine lv_iload_n hM.fx.1 hM.fx.2.1 dX8_number_5 rfl (lv_at hl 2 rfl) ?_
  obtain ⟨x_5, ex_5, hf⟩ := gbd hf
  refine r_go1 hH rfl (r_runV (As := [.int (gi x2)]) hM hH cv_X8_197 (mX3_numberAt hLC hM.ns (hp_1 _ rfl) hr2 ex_5) (hLC.in (hp_1 _ rfl) (by decide)) (by decide) rfl rfl rfl hl.1 rfl (Nat.le_of_ble_eq_true rfl) ⟨(Nat.le_of_ble_eq_true rfl), (Nat.le_of_ble_eq_true rfl)⟩ ⟨(Nat.le_of_ble_eq_true rfl), (Nat.le_of_ble_eq_true rfl)⟩ dX8_number_6) (fun hp_4 H locs hH => ?_)
  obtain rfl := Option.some.inj hf
  exact r_iret hM hH (fun z hz => by cases hz; exact hp_4) ⟨(Nat.le_of_ble_eq_true rfl), (Nat.le_of_ble_eq_true rfl)⟩ dX8_number_9
def fX8_checkSlot (g : Nat → Nat) (a0 : Nat) (x1 : Int) (M : gMem) : Option (Nat ⊕ Unit) :=
  (fX0_hasSlot g (a0 + 1) x1 M).bind fun x_2 => if x_2 = 0 then (some (.inl 3)) else (some (.inr (())))
set_option maxHeartbeats 4000000 in
set_option maxRecDepth 100000 in
theorem mX8_checkSlot {w : gW} {n : Nat} {Rm : Nat → Nat → Nat} {g : Nat → Nat} (hLC : gLC g n Rm) {l : Launch} (hl9 : l.stackTraces = false) {a0 : Nat} {x1 : Int} {M : gMem} {r : (Nat ⊕ Unit)} (hg0 : g a0 = 8) (hr1 : gRI x1) (hf : fX8_checkSlot g a0 x1 M = some r) : gMT w n Rm l yX8_checkSlot cX8_checkSlot 2 none 6 100 1 6 [.ref (w.1 + a0), .int (gi x1)] M (gOcT (fun _ => none) r) M True := by
  unfold fX8_checkSlot at hf
  refine gMT.of hl9 (by decide +kernel) ((Nat.le_of_ble_eq_true rfl)) ?_
  intro p e s m below meth c hM hH ls hl
  have hM : gMC w p l s m ([.ref (w.1 + a0), .int (gi x1)] : List Value).toArray meth c cX8_checkSlot 2 RX8 none := hM
  have hl : lv_has ls 2 [(0, .ref (w.1 + a0)), (1, .int (gi x1))] := hl
  refine lv_aload_n hM.fx.1 hM.fx.2.1 dX8_checkSlot_0 rfl (lv_at hl 0 rfl) ?_
  refine r_getR hM.fx hM.kf hH hLC fl_X8_10 hg0 gch_8_0 dX8_checkSlot_1 ?_
  refine lv_iload_n hM.fx.1 hM.fx.2.1 dX8_checkSlot_4 rfl (lv_at hl 1 rfl) ?_
  obtain ⟨x_2, ex_2, hf⟩ := gbd hf
  refine r_go1 hH rfl (r_runV (As := [.int (gi x1)]) hM hH cv_X8_321 (mX0_hasSlot hLC hM.ns (hLC.ch hg0 (by decide) gch_8_0) hr1 ex_2) (hLC.in (hLC.ch hg0 (by decide) gch_8_0) (by decide)) (by decide) rfl rfl rfl hl.1 rfl (Nat.le_of_ble_eq_true rfl) ⟨(Nat.le_of_ble_eq_true rfl), (Nat.le_of_ble_eq_true rfl)⟩ ⟨(Nat.le_of_ble_eq_true rfl), (Nat.le_of_ble_eq_true rfl)⟩ dX8_checkSlot_5) (fun hp_1 H locs hH => ?_)
  refine r_if_ne (tgt := 22) hM.fx (gz_r hp_1) dX8_checkSlot_8 (by decide) (fun h_3 => ?_) (fun h_3 => ?_)
  · have hf := gneg' h_3 hf
    obtain rfl := Option.some.inj hf
    exact r_vret hM hH trivial ⟨(Nat.le_of_ble_eq_true rfl), (Nat.le_of_ble_eq_true rfl)⟩ dX8_checkSlot_22
  · have hf := gpos h_3 hf
    obtain rfl := Option.some.inj hf
    exact r_throwW (i := 27) (text := "no such slot") hM hH th_X8_209_213 rfl hl.1 dX8_checkSlot_11 dX8_checkSlot_14 dX8_checkSlot_15 dX8_checkSlot_18 dX8_checkSlot_21 ⟨(Nat.le_of_ble_eq_true rfl), (Nat.le_of_ble_eq_true rfl), (Nat.le_of_ble_eq_true rfl), (Nat.le_of_ble_eq_true rfl)⟩ ⟨(Nat.le_of_ble_eq_true rfl), (Nat.le_of_ble_eq_true rfl)⟩
