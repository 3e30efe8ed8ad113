def fX3_copyFrom (g : Nat → Nat) (a0 : Nat) (a1 : Nat) (M : gMem) : Option gMem :=
  gst (gcp M (a1 + 1) (0 : Int).toNat (a0 + 1) (0 : Int).toNat (16 : Int).toNat) fun M_1 => gst (gup M_1 a0 1 (M_1 a1 1)) fun M_3 => gst (gup M_3 a0 2 (M_3 a1 2)) fun M_5 => gst (gup M_5 a0 3 (M_5 a1 3)) fun M_7 => gst (gup M_7 a0 4 (M_7 a1 4)) fun M_9 => gst (gup M_9 a0 5 (M_9 a1 5)) fun M_11 => some M_11
set_option maxHeartbeats 4000000 in
set_option maxRecDepth 100000 in
theorem mX3_copyFrom {w : gW} {n : Nat} {Rm : Nat → Nat → Nat} {g : Nat → Nat} (hLC : gLC g n Rm) {l : Launch} (hl9 : l.stackTraces = false) {a0 : Nat} {a1 : Nat} {M : gMem} {r : gMem} (hg0 : g a0 = 4) (hg1 : g a1 = 4) (hf : fX3_copyFrom g a0 a1 M = some r) : gMT w n Rm l yX3_copyFrom cX3_copyFrom 2 none 1 60 0 0 [.ref (w.1 + a0), .ref (w.1 + a1)] M (.inr none) r True := by
  unfold fX3_copyFrom at hf
  refine gMT.of hl9 (by decide +kernel) ((Nat.le_of_ble_eq_true rfl)) ?_
  intro p e s m below meth c hM hH ls hl
  have hM : gMC w p l s m ([.ref (w.1 + a0), .ref (w.1 + a1)] : List Value).toArray meth c cX3_copyFrom 2 RX3 none := hM
  have hl : lv_has ls 2 [(0, .ref (w.1 + a0)), (1, .ref (w.1 + a1))] := hl
  refine lv_aload_n hM.fx.1 hM.fx.2.1 dX3_copyFrom_0 rfl (lv_at hl 1 rfl) ?_
  refine r_getR hM.fx hM.kf hH hLC fl_X3_9 hg1 gch_4_0 dX3_copyFrom_1 ?_
  refine lv_iconst (v := gi (0)) hM.fx.1 hM.fx.2.1 dX3_copyFrom_4 rfl ?_
  refine lv_aload_n hM.fx.1 hM.fx.2.1 dX3_copyFrom_5 rfl (lv_at hl 0 rfl) ?_
  refine r_getR hM.fx hM.kf hH hLC fl_X3_9 hg0 gch_4_0 dX3_copyFrom_6 ?_
  refine lv_iconst (v := gi (0)) hM.fx.1 hM.fx.2.1 dX3_copyFrom_9 rfl ?_
  refine lv_bipush (v := gi (16)) hM.fx.1 hM.fx.2.1 dX3_copyFrom_10 (by decide) ?_
  refine r_copy hM.fx hM.kf hH hl.1 ⟨gw_659, gw_654, gw_653, gw_111⟩ (hLC.in (hLC.ch hg1 (by decide) gch_4_0) (by decide)) (⟨by decide, by decide⟩ : gAr 272 0) (hLC.in (hLC.ch hg0 (by decide) gch_4_0) (by decide)) (⟨by decide, by decide⟩ : gAr 272 0) ⟨(gcR (k := 0) (by decide)), (gcR (k := 0) (by decide)), (gcR (k := 16) (by decide))⟩ ⟨by decide, by decide, by decide⟩ (by decide) (by decide) ⟨(Nat.le_of_ble_eq_true rfl), (Nat.le_of_ble_eq_true rfl)⟩ dX3_copyFrom_12 (fun H locs hH => ?_)
  obtain ⟨M_1, eM_1, hf⟩ := gst_s hf
  rw [← eM_1] at hH
  refine lv_aload_n hM.fx.1 hM.fx.2.1 dX3_copyFrom_15 rfl (lv_at hl 0 rfl) ?_
  refine lv_aload_n hM.fx.1 hM.fx.2.1 dX3_copyFrom_16 rfl (lv_at hl 1 rfl) ?_
  refine r_getI hM.fx hM.kf hH fl_X3_15 (hLC.in hg1 (by decide)) dX3_copyFrom_17 ?_
  have hr_2 := hH.2.2.i (hLC.in hg1 (by decide)).2.2 (by decide : glg 4 1 = false)
  refine r_putI hM.fx hM.kf hH fp_X3_15 (hLC.in hg0 (by decide)) hr_2 dX3_copyFrom_20 (fun H locs hH => ?_)
  obtain ⟨M_3, eM_3, hf⟩ := gst_s hf
  rw [← eM_3] at hH
  refine lv_aload_n hM.fx.1 hM.fx.2.1 dX3_copyFrom_23 rfl (lv_at hl 0 rfl) ?_
  refine lv_aload_n hM.fx.1 hM.fx.2.1 dX3_copyFrom_24 rfl (lv_at hl 1 rfl) ?_
  refine r_getI hM.fx hM.kf hH fl_X3_19 (hLC.in hg1 (by decide)) dX3_copyFrom_25 ?_
  have hr_4 := hH.2.2.i (hLC.in hg1 (by decide)).2.2 (by decide : glg 4 2 = false)
  refine r_putI hM.fx hM.kf hH fp_X3_19 (hLC.in hg0 (by decide)) hr_4 dX3_copyFrom_28 (fun H locs hH => ?_)
  obtain ⟨M_5, eM_5, hf⟩ := gst_s hf
  rw [← eM_5] at hH
  refine lv_aload_n hM.fx.1 hM.fx.2.1 dX3_copyFrom_31 rfl (lv_at hl 0 rfl) ?_
  refine lv_aload_n hM.fx.1 hM.fx.2.1 dX3_copyFrom_32 rfl (lv_at hl 1 rfl) ?_
  refine r_getI hM.fx hM.kf hH fl_X3_22 (hLC.in hg1 (by decide)) dX3_copyFrom_33 ?_
  have hr_6 := hH.2.2.i (hLC.in hg1 (by decide)).2.2 (by decide : glg 4 3 = false)
  refine r_putI hM.fx hM.kf hH fp_X3_22 (hLC.in hg0 (by decide)) hr_6 dX3_copyFrom_36 (fun H locs hH => ?_)
  obtain ⟨M_7, eM_7, hf⟩ := gst_s hf
  rw [← eM_7] at hH
  refine lv_aload_n hM.fx.1 hM.fx.2.1 dX3_copyFrom_39 rfl (lv_at hl 0 rfl) ?_
  refine lv_aload_n hM.fx.1 hM.fx.2.1 dX3_copyFrom_40 rfl (lv_at hl 1 rfl) ?_
  refine r_getI hM.fx hM.kf hH fl_X3_25 (hLC.in hg1 (by decide)) dX3_copyFrom_41 ?_
  have hr_8 := hH.2.2.i (hLC.in hg1 (by decide)).2.2 (by decide : glg 4 4 = false)
  refine r_putI hM.fx hM.kf hH fp_X3_25 (hLC.in hg0 (by decide)) hr_8 dX3_copyFrom_44 (fun H locs hH => ?_)
  obtain ⟨M_9, eM_9, hf⟩ := gst_s hf
  rw [← eM_9] at hH
  refine lv_aload_n hM.fx.1 hM.fx.2.1 dX3_copyFrom_47 rfl (lv_at hl 0 rfl) ?_
  refine lv_aload_n hM.fx.1 hM.fx.2.1 dX3_copyFrom_48 rfl (lv_at hl 1 rfl) ?_
  refine r_getI hM.fx hM.kf hH fl_X3_28 (hLC.in hg1 (by decide)) dX3_copyFrom_49 ?_
  have hr_10 := hH.2.2.i (hLC.in hg1 (by decide)).2.2 (by decide : glg 4 5 = false)
  refine r_putI hM.fx hM.kf hH fp_X3_28 (hLC.in hg0 (by decide)) hr_10 dX3_copyFrom_52 (fun H locs hH => ?_)
  obtain ⟨M_11, eM_11, hf⟩ := gst_s hf
  rw [← eM_11] at hH
  obtain rfl := Option.some.inj hf
  exact r_vret hM hH trivial ⟨(Nat.le_of_ble_eq_true rfl), (Nat.le_of_ble_eq_true rfl)⟩ dX3_copyFrom_55
def fX0_procAt (g : Nat → Nat) (a0 : Nat) (x1 : Int) (M : gMem) : Option Nat :=
  if x1 < 0 then (some 0) else (if M a0 5 ≤ x1 then (some 0) else (if 8 ≤ x1 then (some 0) else (if 0 ≤ x1 ∧ x1 < 8 then some (a0 + 1 + (8 + 4 * x1.toNat)) else none)))
set_option maxHeartbeats 4000000 in
set_option maxRecDepth 100000 in
theorem mX0_procAt {w : gW} {n : Nat} {Rm : Nat → Nat → Nat} {g : Nat → Nat} (hLC : gLC g n Rm) {l : Launch} (hl9 : l.stackTraces = false) {a0 : Nat} {x1 : Int} {M : gMem} {r : Nat} (hg0 : g a0 = 1) (hr1 : gRI x1) (hf : fX0_procAt g a0 x1 M = some r) : gMT w n Rm l yX0_procAt cX0_procAt 2 (some (.object "StackDesk$Proc")) 1 60 0 0 [.ref (w.1 + a0), .int (gi x1)] M (.inr (some (gvR w r))) M (r ≠ 0 → g r = 5) := by
  unfold fX0_procAt at hf
  refine gMT.of hl9 (by decide +kernel) ((Nat.le_of_ble_eq_true rfl)) ?_
  intro p e s m below meth c hM hH ls hl
  have hM : gMC w p l s m ([.ref (w.1 + a0), .int (gi x1)] : List Value).toArray meth c cX0_procAt 2 RX0 (some (.object "StackDesk$Proc")) := hM
  have hl : lv_has ls 2 [(0, .ref (w.1 + a0)), (1, .int (gi x1))] := hl
  refine lv_iload_n hM.fx.1 hM.fx.2.1 dX0_procAt_0 rfl (lv_at hl 1 rfl) ?_
  refine r_if_lt (tgt := 30) hM.fx hr1 dX0_procAt_1 (by decide) (fun h_1 => ?_) (fun h_1 => ?_)
  · have hf := gpos h_1 hf
    refine r_null (w := w) hM.fx dX0_procAt_30 ?_
    obtain rfl := Option.some.inj hf
    exact r_aretV hM hH (gvR_sh _) (fun h => absurd rfl h) ⟨(Nat.le_of_ble_eq_true rfl), (Nat.le_of_ble_eq_true rfl)⟩ dX0_procAt_31
  · have hf := gneg' h_1 hf
    refine lv_iload_n hM.fx.1 hM.fx.2.1 dX0_procAt_4 rfl (lv_at hl 1 rfl) ?_
    refine lv_aload_n hM.fx.1 hM.fx.2.1 dX0_procAt_5 rfl (lv_at hl 0 rfl) ?_
    refine r_getI hM.fx hM.kf hH fl_X0_43 (hLC.in hg0 (by decide)) dX0_procAt_6 ?_
    have hr_2 := hH.2.2.i (hLC.in hg0 (by decide)).2.2 (by decide : glg 1 5 = false)
    refine r_icmp_ge (tgt := 30) hM.fx hr1 hr_2 dX0_procAt_9 (by decide) (fun h_3 => ?_) (fun h_3 => ?_)
    · have hf := gpos h_3 hf
      refine r_null (w := w) hM.fx dX0_procAt_30 ?_
      obtain rfl := Option.some.inj hf
      exact r_aretV hM hH (gvR_sh _) (fun h => absurd rfl h) ⟨(Nat.le_of_ble_eq_true rfl), (Nat.le_of_ble_eq_true rfl)⟩ dX0_procAt_31
    · have hf := gneg' h_3 hf
      refine lv_iload_n hM.fx.1 hM.fx.2.1 dX0_procAt_12 rfl (lv_at hl 1 rfl) ?_
      refine lv_aload_n hM.fx.1 hM.fx.2.1 dX0_procAt_13 rfl (lv_at hl 0 rfl) ?_
      refine r_getR hM.fx hM.kf hH hLC fl_X0_11 hg0 gch_1_0 dX0_procAt_14 ?_
      refine r_alen hM.fx hM.kf hH 4 rfl (hLC.in (hLC.ch hg0 (by decide) gch_1_0) (by decide)) (⟨by decide, by decide⟩ : gAr 148 4) rfl dX0_procAt_17 ?_
      refine r_icmp_ge (tgt := 30) hM.fx hr1 (gcR (k := 8) (by decide)) dX0_procAt_18 (by decide) (fun h_4 => ?_) (fun h_4 => ?_)
      · have hf := gpos h_4 hf
        refine r_null (w := w) hM.fx dX0_procAt_30 ?_
        obtain rfl := Option.some.inj hf
        exact r_aretV hM hH (gvR_sh _) (fun h => absurd rfl h) ⟨(Nat.le_of_ble_eq_true rfl), (Nat.le_of_ble_eq_true rfl)⟩ dX0_procAt_31
      · have hf := gneg' h_4 hf
        refine lv_aload_n hM.fx.1 hM.fx.2.1 dX0_procAt_21 rfl (lv_at hl 0 rfl) ?_
        refine r_getR hM.fx hM.kf hH hLC fl_X0_11 hg0 gch_1_0 dX0_procAt_22 ?_
        refine lv_iload_n hM.fx.1 hM.fx.2.1 dX0_procAt_25 rfl (lv_at hl 1 rfl) ?_
        obtain ⟨g_5, hf⟩ := gif hf
        refine r_aald hM.fx hM.kf hH hLC 4 rfl (by decide) (hLC.ch hg0 (by decide) gch_1_0) (⟨by decide, by decide⟩ : gAr 148 4) hr1 g_5 (gch_148 (k := (x1).toNat) (by omega)) dX0_procAt_26 ?_
        refine lv_goto (tgt := 31) hM.fx.1 hM.fx.2.1 dX0_procAt_27 (by decide) ?_
        obtain rfl := Option.some.inj hf
        rw [gvR_in (w := w) (hLC.in (hLC.ch (hLC.ch hg0 (by decide) gch_1_0) (by decide) (gch_148 (k := (x1).toNat) (by omega))) (by decide))]
        exact r_aretV hM hH (gvR_sh _) (fun _ => (hLC.ch (hLC.ch hg0 (by decide) gch_1_0) (by decide) (gch_148 (k := (x1).toNat) (by omega)))) ⟨(Nat.le_of_ble_eq_true rfl), (Nat.le_of_ble_eq_true rfl)⟩ dX0_procAt_31
def fX0_setOnSlot_20 (g : Nat → Nat)  (a0 : Nat) (x1 : Int) (x2 : Int) (M : gMem) : Option gMem :=
  if x2 < 0 then (some M) else (if 12 ≤ x2 then (some M) else (if 0 ≤ x2 ∧ x2 < 12 then gst (gup M (a0 + 2 + (39 + 2 * x2.toNat)) 3 ((-1))) fun M_4 => if 0 ≤ x2 ∧ x2 < 12 then gst (gup M_4 (a0 + 2 + (39 + 2 * x2.toNat)) 4 x1) fun M_6 => some M_6 else none else none))
set_option maxHeartbeats 4000000 in
set_option maxRecDepth 100000 in
theorem wX0_setOnSlot_20 {w : gW} {n : Nat} {Rm : Nat → Nat → Nat} {g : Nat → Nat} (hLC : gLC g n Rm) {p : Program} {l : Launch} {e : Env} {s : State} {m : MethodId} {args : Array Value} {below : List Frame} {meth : Method} {c : Code} (hM : gMC w p l s m args meth c cX0_setOnSlot 3 RX0 none)  : ∀ (a0 : Nat) (x1 : Int) (x2 : Int) (M : gMem) (r : gMem) (hg0 : g a0 = 1) (hr1 : gRI x1) (hr2 : gRI x2) (hf : fX0_setOnSlot_20 g a0 x1 x2 M = some r) (H : Heap) (locs : List Loc) (ls : Array Slot) (hH : gH w n Rm M s H locs) (hl : lv_has ls 3 [(0, .ref (w.1 + a0)), (1, .int (gi x1)), (2, .int (gi x2))]), W p l e { frames := 1, cells := 0, slots := 0, locals := 60 } s m args below meth c H locs 0 0 (gQ w n Rm below args s 0 0 (.inr none) r True) (F0 m 20 ls []) := by
  intro a0 x1 x2 M r hg0 hr1 hr2 hf H locs ls hH hl
  unfold fX0_setOnSlot_20 at hf
  refine lv_iload_n hM.fx.1 hM.fx.2.1 dX0_setOnSlot_20 rfl (lv_at hl 2 rfl) ?_
  refine r_if_lt (tgt := 53) hM.fx hr2 dX0_setOnSlot_21 (by decide) (fun h_1 => ?_) (fun h_1 => ?_)
  · have hf := gpos h_1 hf
    obtain rfl := Option.some.inj hf
    exact r_vret hM hH trivial ⟨(Nat.le_of_ble_eq_true rfl), (Nat.le_of_ble_eq_true rfl)⟩ dX0_setOnSlot_53
  · have hf := gneg' h_1 hf
    refine lv_iload_n hM.fx.1 hM.fx.2.1 dX0_setOnSlot_24 rfl (lv_at hl 2 rfl) ?_
    refine lv_aload_n hM.fx.1 hM.fx.2.1 dX0_setOnSlot_25 rfl (lv_at hl 0 rfl) ?_
    refine r_getR hM.fx hM.kf hH hLC fl_X0_19 hg0 gch_1_1 dX0_setOnSlot_26 ?_
    refine r_alen hM.fx hM.kf hH 5 rfl (hLC.in (hLC.ch hg0 (by decide) gch_1_1) (by decide)) (⟨by decide, by decide⟩ : gAr 213 5) rfl dX0_setOnSlot_29 ?_
    refine r_icmp_ge (tgt := 53) hM.fx hr2 (gcR (k := 12) (by decide)) dX0_setOnSlot_30 (by decide) (fun h_2 => ?_) (fun h_2 => ?_)
    · have hf := gpos h_2 hf
      obtain rfl := Option.some.inj hf
      exact r_vret hM hH trivial ⟨(Nat.le_of_ble_eq_true rfl), (Nat.le_of_ble_eq_true rfl)⟩ dX0_setOnSlot_53
    · have hf := gneg' h_2 hf
      refine lv_aload_n hM.fx.1 hM.fx.2.1 dX0_setOnSlot_33 rfl (lv_at hl 0 rfl) ?_
      refine r_getR hM.fx hM.kf hH hLC fl_X0_19 hg0 gch_1_1 dX0_setOnSlot_34 ?_
      refine lv_iload_n hM.fx.1 hM.fx.2.1 dX0_setOnSlot_37 rfl (lv_at hl 2 rfl) ?_
      obtain ⟨g_3, hf⟩ := gif hf
      refine r_aald hM.fx hM.kf hH hLC 5 rfl (by decide) (hLC.ch hg0 (by decide) gch_1_1) (⟨by decide, by decide⟩ : gAr 213 5) hr2 g_3 (gch_213 (k := (x2).toNat) (by omega)) dX0_setOnSlot_38 ?_
      refine lv_iconst (v := gi (-1)) hM.fx.1 hM.fx.2.1 dX0_setOnSlot_39 rfl ?_
      refine r_putI hM.fx hM.kf hH fp_X0_82 (hLC.in (hLC.ch (hLC.ch hg0 (by decide) gch_1_1) (by decide) (gch_213 (k := (x2).toNat) (by omega))) (by decide)) (gcR (k := -1) (by decide)) dX0_setOnSlot_40 (fun H locs hH => ?_)
      obtain ⟨M_4, eM_4, hf⟩ := gst_s hf
      rw [← eM_4] at hH
      refine lv_aload_n hM.fx.1 hM.fx.2.1 dX0_setOnSlot_43 rfl (lv_at hl 0 rfl) ?_
      refine r_getR hM.fx hM.kf hH hLC fl_X0_19 hg0 gch_1_1 dX0_setOnSlot_44 ?_
      refine lv_iload_n hM.fx.1 hM.fx.2.1 dX0_setOnSlot_47 rfl (lv_at hl 2 rfl) ?_
      obtain ⟨g_5, hf⟩ := gif hf
      refine r_aald hM.fx hM.kf hH hLC 5 rfl (by decide) (hLC.ch hg0 (by decide) gch_1_1) (⟨by decide, by decide⟩ : gAr 213 5) hr2 g_5 (gch_213 (k := (x2).toNat) (by omega)) dX0_setOnSlot_48 ?_
      refine lv_iload_n hM.fx.1 hM.fx.2.1 dX0_setOnSlot_49 rfl (lv_at hl 1 rfl) ?_
      refine r_putI hM.fx hM.kf hH fp_X0_85 (hLC.in (hLC.ch (hLC.ch hg0 (by decide) gch_1_1) (by decide) (gch_213 (k := (x2).toNat) (by omega))) (by decide)) hr1 dX0_setOnSlot_50 (fun H locs hH => ?_)
      obtain ⟨M_6, eM_6, hf⟩ := gst_s hf
      rw [← eM_6] at hH
      obtain rfl := Option.some.inj hf
      exact r_vret hM hH trivial ⟨(Nat.le_of_ble_eq_true rfl), (Nat.le_of_ble_eq_true rfl)⟩ dX0_setOnSlot_53
def fX0_setOnSlot (g : Nat → Nat) (a0 : Nat) (x1 : Int) (x2 : Int) (M : gMem) : Option gMem :=
  if x1 < 0 then (fX0_setOnSlot_20 g a0 x1 x2 M) else (if 4 ≤ x1 then (fX0_setOnSlot_20 g a0 x1 x2 M) else (if 0 ≤ x1 ∧ x1 < 4 then gst (gup M (a0 + 3) x1.toNat x2) fun M_4 => fX0_setOnSlot_20 g a0 x1 x2 M_4 else none))
set_option maxHeartbeats 4000000 in
set_option maxRecDepth 100000 in
theorem mX0_setOnSlot {w : gW} {n : Nat} {Rm : Nat → Nat → Nat} {g : Nat → Nat} (hLC : gLC g n Rm) {l : Launch} (hl9 : l.stackTraces = false) {a0 : Nat} {x1 : Int} {x2 : Int} {M : gMem} {r : gMem} (hg0 : g a0 = 1) (hr1 : gRI x1) (hr2 : gRI x2) (hf : fX0_setOnSlot g a0 x1 x2 M = some r) : gMT w n Rm l yX0_setOnSlot cX0_setOnSlot 3 none 1 60 0 0 [.ref (w.1 + a0), .int (gi x1), .int (gi x2)] M (.inr none) r True := by
  unfold fX0_setOnSlot at hf
  refine gMT.of hl9 (by decide +kernel) ((Nat.le_of_ble_eq_true rfl)) ?_
  intro p e s m below meth c hM hH ls hl
  have hM : gMC w p l s m ([.ref (w.1 + a0), .int (gi x1), .int (gi x2)] : List Value).toArray meth c cX0_setOnSlot 3 RX0 none := hM
  have hl : lv_has ls 3 [(0, .ref (w.1 + a0)), (1, .int (gi x1)), (2, .int (gi x2))] := hl
  refine lv_iload_n hM.fx.1 hM.fx.2.1 dX0_setOnSlot_0 rfl (lv_at hl 1 rfl) ?_
  refine r_if_lt (tgt := 20) hM.fx hr1 dX0_setOnSlot_1 (by decide) (fun h_1 => ?_) (fun h_1 => ?_)
  · have hf := gpos h_1 hf
    exact wX0_setOnSlot_20 hLC hM   _ _ _ _ _ hg0 hr1 hr2 hf _ _ _ hH hl
  · have hf := gneg' h_1 hf
    refine lv_iload_n hM.fx.1 hM.fx.2.1 dX0_setOnSlot_4 rfl (lv_at hl 1 rfl) ?_
    refine lv_aload_n hM.fx.1 hM.fx.2.1 dX0_setOnSlot_5 rfl (lv_at hl 0 rfl) ?_
    refine r_getR hM.fx hM.kf hH hLC fl_X0_23 hg0 gch_1_2 dX0_setOnSlot_6 ?_
    refine r_alen hM.fx hM.kf hH 0 rfl (hLC.in (hLC.ch hg0 (by decide) gch_1_2) (by decide)) (⟨by decide, by decide⟩ : gAr 80 0) rfl dX0_setOnSlot_9 ?_
    refine r_icmp_ge (tgt := 20) hM.fx hr1 (gcR (k := 4) (by decide)) dX0_setOnSlot_10 (by decide) (fun h_2 => ?_) (fun h_2 => ?_)
    · have hf := gpos h_2 hf
      exact wX0_setOnSlot_20 hLC hM   _ _ _ _ _ hg0 hr1 hr2 hf _ _ _ hH hl
    · have hf := gneg' h_2 hf
      refine lv_aload_n hM.fx.1 hM.fx.2.1 dX0_setOnSlot_13 rfl (lv_at hl 0 rfl) ?_
      refine r_getR hM.fx hM.kf hH hLC fl_X0_23 hg0 gch_1_2 dX0_setOnSlot_14 ?_
      refine lv_iload_n hM.fx.1 hM.fx.2.1 dX0_setOnSlot_17 rfl (lv_at hl 1 rfl) ?_
      refine lv_iload_n hM.fx.1 hM.fx.2.1 dX0_setOnSlot_18 rfl (lv_at hl 2 rfl) ?_
      obtain ⟨g_3, hf⟩ := gif hf
      refine r_iast hM.fx hM.kf hH (hLC.in (hLC.ch hg0 (by decide) gch_1_2) (by decide)) (⟨by decide, by decide⟩ : gAr 80 0) hr1 g_3 hr2 dX0_setOnSlot_19 (fun H locs hH => ?_)
      obtain ⟨M_4, eM_4, hf⟩ := gst_s hf
      rw [← eM_4] at hH
      exact wX0_setOnSlot_20 hLC hM   _ _ _ _ _ hg0 hr1 hr2 hf _ _ _ hH hl
def fX0_nextProc_52 (g : Nat → Nat) (k7 : Nat → Int → Int → gMem → Option Int) (a0 : Nat) (x1 : Int) (x2 : Int) (M : gMem) : Option Int :=
  gst (gwi (x2 + 1)) fun x_1 => k7 a0 x1 x_1 M
set_option maxHeartbeats 4000000 in
set_option maxRecDepth 100000 in
theorem wX0_nextProc_52 {w : gW} {n : Nat} {Rm : Nat → Nat → Nat} {g : Nat → Nat} (hLC : gLC g n Rm) {p : Program} {l : Launch} {e : Env} {s : State} {m : MethodId} {args : Array Value} {below : List Frame} {meth : Method} {c : Code} (hM : gMC w p l s m args meth c cX0_nextProc 4 RX0 (some .int)) (k7 : Nat → Int → Int → gMem → Option Int) (hk7 : ∀ (a0 : Nat) (x1 : Int) (x2 : Int) (M : gMem) (r : Int) (hg0 : g a0 = 1) (hr1 : gRI x1) (hr2 : gRI x2) (hf : k7 a0 x1 x2 M = some r) (H : Heap) (locs : List Loc) (ls : Array Slot) (hH : gH w n Rm M s H locs) (hl : lv_has ls 4 [(0, .ref (w.1 + a0)), (1, .int (gi x1)), (2, .int (gi x2))]), W p l e { frames := 2, cells := 0, slots := 0, locals := 81 } s m args below meth c H locs 0 0 (gQ w n Rm below args s 0 0 (.inr (some (.int (gi r)))) M (gRI r)) (F0 m 7 ls [])) : ∀ (a0 : Nat) (x1 : Int) (x2 : Int) (M : gMem) (r : Int) (hg0 : g a0 = 1) (hr1 : gRI x1) (hr2 : gRI x2) (hf : fX0_nextProc_52 g k7 a0 x1 x2 M = some r) (H : Heap) (locs : List Loc) (ls : Array Slot) (hH : gH w n Rm M s H locs) (hl : lv_has ls 4 [(0, .ref (w.1 + a0)), (1, .int (gi x1)), (2, .int (gi x2))]), W p l e { frames := 2, cells := 0, slots := 0, locals := 81 } s m args below meth c H locs 0 0 (gQ w n Rm below args s 0 0 (.inr (some (.int (gi r)))) M (gRI r)) (F0 m 52 ls []) := by
  intro a0 x1 x2 M r hg0 hr1 hr2 hf H locs ls hH hl
  unfold fX0_nextProc_52 at hf
  obtain ⟨x_1, ex_1, hf⟩ := gst_s hf
  have hx_1 : gRI x_1 := by rw [ex_1]; exact gwi_r _
  refine r_iinc (lv' := [(2, .int (gi x_1)), (0, .ref (w.1 + a0)), (1, .int (gi x1))]) hM.fx dX0_nextProc_52 hl (k := 2) rfl (by decide) (by rw [ex_1]; rfl) (fun ls hl => ?_)
  refine lv_goto (tgt := 7) hM.fx.1 hM.fx.2.1 dX0_nextProc_55 (by decide) ?_
  exact hk7 _ _ _ _ _ hg0 hr1 hx_1 hf _ _ _ hH (lv_sub hl [1, 2, 0] rfl)
def fX0_nextProc_32 (g : Nat → Nat) (k7 : Nat → Int → Int → gMem → Option Int) (a0 : Nat) (x2 : Int) (xs0 : Int) (M : gMem) : Option Int :=
  (fX0_procAt g a0 xs0 M).bind fun a_2 => if a_2 = 0 then (fX0_nextProc_52 g k7 a0 xs0 x2 M) else (if M a_2 8 = 0 then (some xs0) else (fX0_nextProc_52 g k7 a0 xs0 x2 M))
set_option maxHeartbeats 4000000 in
set_option maxRecDepth 100000 in
theorem wX0_nextProc_32 {w : gW} {n : Nat} {Rm : Nat → Nat → Nat} {g : Nat → Nat} (hLC : gLC g n Rm) {p : Program} {l : Launch} {e : Env} {s : State} {m : MethodId} {args : Array Value} {below : List Frame} {meth : Method} {c : Code} (hM : gMC w p l s m args meth c cX0_nextProc 4 RX0 (some .int)) (k7 : Nat → Int → Int → gMem → Option Int) (hk7 : ∀ (a0 : Nat) (x1 : Int) (x2 : Int) (M : gMem) (r : Int) (hg0 : g a0 = 1) (hr1 : gRI x1) (hr2 : gRI x2) (hf : k7 a0 x1 x2 M = some r) (H : Heap) (locs : List Loc) (ls : Array Slot) (hH : gH w n Rm M s H locs) (hl : lv_has ls 4 [(0, .ref (w.1 + a0)), (1, .int (gi x1)), (2, .int (gi x2))]), W p l e { frames := 2, cells := 0, slots := 0, locals := 81 } s m args below meth c H locs 0 0 (gQ w n Rm below args s 0 0 (.inr (some (.int (gi r)))) M (gRI r)) (F0 m 7 ls [])) : ∀ (a0 : Nat) (x2 : Int) (xs0 : Int) (M : gMem) (r : Int) (hg0 : g a0 = 1) (hr2 : gRI x2) (hrs0 : gRI xs0) (hf : fX0_nextProc_32 g k7 a0 x2 xs0 M = some r) (H : Heap) (locs : List Loc) (ls : Array Slot) (hH : gH w n Rm M s H locs) (hl : lv_has ls 4 [(0, .ref (w.1 + a0)), (2, .int (gi x2))]), W p l e { frames := 2, cells := 0, slots := 0, locals := 81 } s m args below meth c H locs 0 0 (gQ w n Rm below args s 0 0 (.inr (some (.int (gi r)))) M (gRI r)) (F0 m 32 ls [.int (gi xs0)]) := by
  intro a0 x2 xs0 M r hg0 hr2 hrs0 hf H locs ls hH hl
  unfold fX0_nextProc_32 at hf
  refine lv_istore_n (lv' := [(1, .int (gi xs0)), (0, .ref (w.1 + a0)), (2, .int (gi x2))]) hM.fx.1 hM.fx.2.1 dX0_nextProc_32 rfl hl (by decide) rfl (fun ls hl => ?_)
  refine lv_aload_n hM.fx.1 hM.fx.2.1 dX0_nextProc_33 rfl (lv_at hl 1 rfl) ?_
  refine lv_iload_n hM.fx.1 hM.fx.2.1 dX0_nextProc_34 rfl (lv_at hl 0 rfl) ?_
  obtain ⟨a_2, ea_2, hf⟩ := gbd hf
  refine r_go1 hH rfl (r_runV (As := [.int (gi xs0)]) hM hH cv_X0_113 (mX0_procAt hLC hM.ns hg0 hrs0 ea_2) (hLC.in hg0 (by decide)) (by decide) rfl rfl rfl hl.1 rfl (Nat.le_of_ble_eq_true rfl) ⟨(Nat.le_of_ble_eq_true rfl), (Nat.le_of_ble_eq_true rfl)⟩ ⟨(Nat.le_of_ble_eq_true rfl), (Nat.le_of_ble_eq_true rfl)⟩ dX0_nextProc_35) (fun hp_1 H locs hH => ?_)
  refine r_astore_nV (lv' := [(3, gvR w a_2), (1, .int (gi xs0)), (0, .ref (w.1 + a0)), (2, .int (gi x2))]) hM.fx dX0_nextProc_38 rfl hl (by decide) rfl (fun ls hl => ?_)
  refine r_aload_nV hM.fx dX0_nextProc_39 rfl (lv_at hl 0 rfl) ?_
  refine r_ifnull (tgt := 52) hM.fx dX0_nextProc_40 (by decide) (fun h_3 => ?_) (fun h_3 => ?_)
  · have hf := gpos h_3 hf
    exact wX0_nextProc_52 hLC hM k7 hk7  _ _ _ _ _ hg0 hrs0 hr2 hf _ _ _ hH (lv_sub hl [2, 1, 3] rfl)
  · have hf := gneg' h_3 hf
    rw [gvR_nn h_3] at hl
    refine lv_aload_n hM.fx.1 hM.fx.2.1 dX0_nextProc_43 rfl (lv_at hl 0 rfl) ?_
    refine r_getI hM.fx hM.kf hH fl_X0_95 (hLC.in (hp_1 h_3) (by decide)) dX0_nextProc_44 ?_
    have hr_4 := hH.2.2.i (hLC.in (hp_1 h_3) (by decide)).2.2 (by decide : glg 5 8 = false)
    refine r_if_ne (tgt := 52) hM.fx hr_4 dX0_nextProc_47 (by decide) (fun h_5 => ?_) (fun h_5 => ?_)
    · have hf := gneg' h_5 hf
      exact wX0_nextProc_52 hLC hM k7 hk7  _ _ _ _ _ hg0 hrs0 hr2 hf _ _ _ hH (lv_sub hl [2, 1, 3] rfl)
    · have hf := gpos h_5 hf
      refine lv_iload_n hM.fx.1 hM.fx.2.1 dX0_nextProc_50 rfl (lv_at hl 1 rfl) ?_
      obtain rfl := Option.some.inj hf
      exact r_iret hM hH hrs0 ⟨(Nat.le_of_ble_eq_true rfl), (Nat.le_of_ble_eq_true rfl)⟩ dX0_nextProc_51
def fX0_nextProc_7 (g : Nat → Nat)  : Nat → Nat → Int → Int → gMem → Option Int
  | 0, _, _, _, _ => none
  | fu + 1, a0, x1, x2, M => if M a0 5 ≤ x2 then (some (-1)) else (if M a0 5 ≤ gwi (x1 + 1) then (fX0_nextProc_32 g (fX0_nextProc_7 g fu) a0 x2 0 M) else (fX0_nextProc_32 g (fX0_nextProc_7 g fu) a0 x2 (gwi (x1 + 1)) M))
set_option maxHeartbeats 4000000 in
set_option maxRecDepth 100000 in
theorem wX0_nextProc_7 {w : gW} {n : Nat} {Rm : Nat → Nat → Nat} {g : Nat → Nat} (hLC : gLC g n Rm) {p : Program} {l : Launch} {e : Env} {s : State} {m : MethodId} {args : Array Value} {below : List Frame} {meth : Method} {c : Code} (hM : gMC w p l s m args meth c cX0_nextProc 4 RX0 (some .int))  : ∀ (fu : Nat), ∀ (a0 : Nat) (x1 : Int) (x2 : Int) (M : gMem) (r : Int) (hg0 : g a0 = 1) (hr1 : gRI x1) (hr2 : gRI x2) (hf : fX0_nextProc_7 g fu a0 x1 x2 M = some r) (H : Heap) (locs : List Loc) (ls : Array Slot) (hH : gH w n Rm M s H locs) (hl : lv_has ls 4 [(0, .ref (w.1 + a0)), (1, .int (gi x1)), (2, .int (gi x2))]), W p l e { frames := 2, cells := 0, slots := 0, locals := 81 } s m args below meth c H locs 0 0 (gQ w n Rm below args s 0 0 (.inr (some (.int (gi r)))) M (gRI r)) (F0 m 7 ls []) := by
  intro fu
  induction fu with
  | zero =>
    intro a0 x1 x2 M r hg0 hr1 hr2 hf H locs ls hH hl
    exact absurd hf (by simp [fX0_nextProc_7])
  | succ fu ih =>
    intro a0 x1 x2 M r hg0 hr1 hr2 hf H locs ls hH hl
    unfold fX0_nextProc_7 at hf
    refine lv_iload_n hM.fx.1 hM.fx.2.1 dX0_nextProc_7 rfl (lv_at hl 2 rfl) ?_
    refine lv_aload_n hM.fx.1 hM.fx.2.1 dX0_nextProc_8 rfl (lv_at hl 0 rfl) ?_
    refine r_getI hM.fx hM.kf hH fl_X0_43 (hLC.in hg0 (by decide)) dX0_nextProc_9 ?_
    have hr_1 := hH.2.2.i (hLC.in hg0 (by decide)).2.2 (by decide : glg 1 5 = false)
    refine r_icmp_ge (tgt := 58) hM.fx hr2 hr_1 dX0_nextProc_12 (by decide) (fun h_2 => ?_) (fun h_2 => ?_)
    · have hf := gpos h_2 hf
      refine lv_iconst (v := gi (-1)) hM.fx.1 hM.fx.2.1 dX0_nextProc_58 rfl ?_
      obtain rfl := Option.some.inj hf
      exact r_iret hM hH (gcR (k := -1) (by decide)) ⟨(Nat.le_of_ble_eq_true rfl), (Nat.le_of_ble_eq_true rfl)⟩ dX0_nextProc_59
    · have hf := gneg' h_2 hf
      refine lv_iload_n hM.fx.1 hM.fx.2.1 dX0_nextProc_15 rfl (lv_at hl 1 rfl) ?_
      refine lv_iconst (v := gi (1)) hM.fx.1 hM.fx.2.1 dX0_nextProc_16 rfl ?_
      refine r_iadd hM.fx dX0_nextProc_17 ?_
      refine lv_aload_n hM.fx.1 hM.fx.2.1 dX0_nextProc_18 rfl (lv_at hl 0 rfl) ?_
      refine r_getI hM.fx hM.kf hH fl_X0_43 (hLC.in hg0 (by decide)) dX0_nextProc_19 ?_
      have hr_3 := hH.2.2.i (hLC.in hg0 (by decide)).2.2 (by decide : glg 1 5 = false)
      refine r_icmp_ge (tgt := 31) hM.fx (gwi_r _) hr_3 dX0_nextProc_22 (by decide) (fun h_4 => ?_) (fun h_4 => ?_)
      · have hf := gpos h_4 hf
        refine lv_iconst (v := gi (0)) hM.fx.1 hM.fx.2.1 dX0_nextProc_31 rfl ?_
        exact wX0_nextProc_32 hLC hM (fX0_nextProc_7 g fu) ih  _ _ _ _ _ hg0 hr2 (gcR (k := 0) (by decide)) hf _ _ _ hH (lv_sub hl [0, 2] rfl)
      · have hf := gneg' h_4 hf
        refine lv_iload_n hM.fx.1 hM.fx.2.1 dX0_nextProc_25 rfl (lv_at hl 1 rfl) ?_
        refine lv_iconst (v := gi (1)) hM.fx.1 hM.fx.2.1 dX0_nextProc_26 rfl ?_
        refine r_iadd hM.fx dX0_nextProc_27 ?_
        refine lv_goto (tgt := 32) hM.fx.1 hM.fx.2.1 dX0_nextProc_28 (by decide) ?_
        exact wX0_nextProc_32 hLC hM (fX0_nextProc_7 g fu) ih  _ _ _ _ _ hg0 hr2 (gwi_r _) hf _ _ _ hH (lv_sub hl [0, 2] rfl)
def fX0_nextProc (g : Nat → Nat) (a0 : Nat) (M : gMem) : Option Int :=
  gst (M a0 8) fun x_2 => fX0_nextProc_7 g gF a0 x_2 0 M
set_option maxHeartbeats 4000000 in
set_option maxRecDepth 100000 in
theorem mX0_nextProc {w : gW} {n : Nat} {Rm : Nat → Nat → Nat} {g : Nat → Nat} (hLC : gLC g n Rm) {l : Launch} (hl9 : l.stackTraces = false) {a0 : Nat} {M : gMem} {r : Int} (hg0 : g a0 = 1) (hf : fX0_nextProc g a0 M = some r) : gMT w n Rm l yX0_nextProc cX0_nextProc 4 (some .int) 2 81 0 0 [.ref (w.1 + a0)] M (.inr (some (.int (gi r)))) M (gRI r) := by
  unfold fX0_nextProc at hf
  refine gMT.of hl9 (by decide +kernel) ((Nat.le_of_ble_eq_true rfl)) ?_
  intro p e s m below meth c hM hH ls hl
  have hM : gMC w p l s m ([.ref (w.1 + a0)] : List Value).toArray meth c cX0_nextProc 4 RX0 (some .int) := hM
  have hl : lv_has ls 4 [(0, .ref (w.1 + a0))] := hl
  refine lv_aload_n hM.fx.1 hM.fx.2.1 dX0_nextProc_0 rfl (lv_at hl 0 rfl) ?_
  refine r_getI hM.fx hM.kf hH fl_X0_52 (hLC.in hg0 (by decide)) dX0_nextProc_1 ?_
  have hr_1 := hH.2.2.i (hLC.in hg0 (by decide)).2.2 (by decide : glg 1 8 = false)
  obtain ⟨x_2, ex_2, hf⟩ := gst_s hf
  refine W.eq (g2 := F0 m _ ls (.int (gi x_2) :: _)) (by rw [ex_2]) ?_
  have hx_2 : gRI x_2 := by rw [ex_2]; exact hr_1
  refine lv_istore_n (lv' := [(1, .int (gi x_2)), (0, .ref (w.1 + a0))]) hM.fx.1 hM.fx.2.1 dX0_nextProc_4 rfl hl (by decide) rfl (fun ls hl => ?_)
  refine lv_iconst (v := gi (0)) hM.fx.1 hM.fx.2.1 dX0_nextProc_5 rfl ?_
  refine lv_istore_n (lv' := [(2, .int (gi 0)), (1, .int (gi x_2)), (0, .ref (w.1 + a0))]) hM.fx.1 hM.fx.2.1 dX0_nextProc_6 rfl hl (by decide) rfl (fun ls hl => ?_)
  exact wX0_nextProc_7 hLC hM  gF _ _ _ _ _ hg0 hx_2 (gcR (k := 0) (by decide)) hf _ _ _ hH (lv_sub hl [2, 1, 0] rfl)
def fX2_entry (g : Nat → Nat) (a0 : Nat) (x1 : Int) (x2 : Int) (M : gMem) : Option Int :=
  gst ((gwi (gwi (M a0 4 - 1) - x1)).tmod 40) fun x_2 => if x_2 < 0 then (some (-1)) else (if x_2 < 40 then (if x2 = 0 then (if 0 ≤ x_2 ∧ x_2 < 40 then some (M (a0 + 1) x_2.toNat) else none) else (if x2 = 1 then (if 0 ≤ x_2 ∧ x_2 < 40 then some (M (a0 + 2) x_2.toNat) else none) else (if x2 = 2 then (if 0 ≤ x_2 ∧ x_2 < 40 then some (M (a0 + 3) x_2.toNat) else none) else (if 0 ≤ x_2 ∧ x_2 < 40 then some (M (a0 + 4) x_2.toNat) else none)))) else (some (-1)))
set_option maxHeartbeats 4000000 in
set_option maxRecDepth 100000 in
theorem mX2_entry {w : gW} {n : Nat} {Rm : Nat → Nat → Nat} {g : Nat → Nat} (hLC : gLC g n Rm) {l : Launch} (hl9 : l.stackTraces = false) {a0 : Nat} {x1 : Int} {x2 : Int} {M : gMem} {r : Int} (hg0 : g a0 = 3) (hr1 : gRI x1) (hr2 : gRI x2) (hf : fX2_entry g a0 x1 x2 M = some r) : gMT w n Rm l yX2_entry cX2_entry 4 (some .int) 1 60 0 0 [.ref (w.1 + a0), .int (gi x1), .int (gi x2)] M (.inr (some (.int (gi r)))) M (gRI r) := by
  unfold fX2_entry at hf
  refine gMT.of hl9 (by decide +kernel) ((Nat.le_of_ble_eq_true rfl)) ?_
  intro p e s m below meth c hM hH ls hl
  have hM : gMC w p l s m ([.ref (w.1 + a0), .int (gi x1), .int (gi x2)] : List Value).toArray meth c cX2_entry 4 RX2 (some .int) := hM
  have hl : lv_has ls 4 [(0, .ref (w.1 + a0)), (1, .int (gi x1)), (2, .int (gi x2))] := hl
  refine lv_aload_n hM.fx.1 hM.fx.2.1 dX2_entry_0 rfl (lv_at hl 0 rfl) ?_
  refine r_getI hM.fx hM.kf hH fl_X2_30 (hLC.in hg0 (by decide)) dX2_entry_1 ?_
  have hr_1 := hH.2.2.i (hLC.in hg0 (by decide)).2.2 (by decide : glg 3 4 = false)
  refine lv_iconst (v := gi (1)) hM.fx.1 hM.fx.2.1 dX2_entry_4 rfl ?_
  refine r_isub hM.fx dX2_entry_5 ?_
  refine lv_iload_n hM.fx.1 hM.fx.2.1 dX2_entry_6 rfl (lv_at hl 1 rfl) ?_
  refine r_isub hM.fx dX2_entry_7 ?_
  refine lv_bipush (v := gi (40)) hM.fx.1 hM.fx.2.1 dX2_entry_8 (by decide) ?_
  refine r_irem hM.fx (gwi_r _) (gcR (k := 40) (by decide)) (by decide) dX2_entry_10 ?_
  obtain ⟨x_2, ex_2, hf⟩ := gst_s hf
  refine W.eq (g2 := F0 m _ ls (.int (gi x_2) :: _)) (by rw [ex_2]) ?_
  have hx_2 : gRI x_2 := by rw [ex_2]; exact (gtmod_r (gwi_r _))
  refine lv_istore_n (lv' := [(3, .int (gi x_2)), (0, .ref (w.1 + a0)), (1, .int (gi x1)), (2, .int (gi x2))]) hM.fx.1 hM.fx.2.1 dX2_entry_11 rfl hl (by decide) rfl (fun ls hl => ?_)
  refine lv_iload_n hM.fx.1 hM.fx.2.1 dX2_entry_12 rfl (lv_at hl 0 rfl) ?_
  refine r_if_lt (tgt := 22) hM.fx hx_2 dX2_entry_13 (by decide) (fun h_3 => ?_) (fun h_3 => ?_)
  · have hf := gpos h_3 hf
    refine lv_iconst (v := gi (-1)) hM.fx.1 hM.fx.2.1 dX2_entry_22 rfl ?_
    obtain rfl := Option.some.inj hf
    exact r_iret hM hH (gcR (k := -1) (by decide)) ⟨(Nat.le_of_ble_eq_true rfl), (Nat.le_of_ble_eq_true rfl)⟩ dX2_entry_23
  · have hf := gneg' h_3 hf
    refine lv_iload_n hM.fx.1 hM.fx.2.1 dX2_entry_16 rfl (lv_at hl 0 rfl) ?_
    refine lv_bipush (v := gi (40)) hM.fx.1 hM.fx.2.1 dX2_entry_17 (by decide) ?_
    refine r_icmp_lt (tgt := 24) hM.fx hx_2 (gcR (k := 40) (by decide)) dX2_entry_19 (by decide) (fun h_4 => ?_) (fun h_4 => ?_)
    · have hf := gpos h_4 hf
      refine lv_iload_n hM.fx.1 hM.fx.2.1 dX2_entry_24 rfl (lv_at hl 3 rfl) ?_
      by_cases h_5 : x2 = 0
      · refine r_tsIn (tgt := 52) hM.fx hr2 0 dX2_entry_25 h_5 (by decide) rfl (by decide) ?_
        have hf := gpos h_5 hf
        refine lv_aload_n hM.fx.1 hM.fx.2.1 dX2_entry_52 rfl (lv_at hl 1 rfl) ?_
        refine r_getR hM.fx hM.kf hH hLC fl_X2_9 hg0 gch_3_0 dX2_entry_53 ?_
        refine lv_iload_n hM.fx.1 hM.fx.2.1 dX2_entry_56 rfl (lv_at hl 0 rfl) ?_
        obtain ⟨g_6, hf⟩ := gif hf
        refine r_iald hM.fx hM.kf hH (hLC.in (hLC.ch hg0 (by decide) gch_3_0) (by decide)) (⟨by decide, by decide⟩ : gAr 656 0) hx_2 g_6 dX2_entry_57 ?_
        have hr_7 := hH.2.2.i (k := x_2.toNat) (hLC.in (hLC.ch hg0 (by decide) gch_3_0) (by decide)).2.2 (glg_a (⟨by decide, by decide⟩ : gAr 656 0))
        obtain rfl := Option.some.inj hf
        exact r_iret hM hH hr_7 ⟨(Nat.le_of_ble_eq_true rfl), (Nat.le_of_ble_eq_true rfl)⟩ dX2_entry_58
      · have hf := gneg' h_5 hf
        by_cases h_8 : x2 = 1
        · refine r_tsIn (tgt := 59) hM.fx hr2 1 dX2_entry_25 h_8 (by decide) rfl (by decide) ?_
          have hf := gpos h_8 hf
          refine lv_aload_n hM.fx.1 hM.fx.2.1 dX2_entry_59 rfl (lv_at hl 1 rfl) ?_
          refine r_getR hM.fx hM.kf hH hLC fl_X2_15 hg0 gch_3_1 dX2_entry_60 ?_
          refine lv_iload_n hM.fx.1 hM.fx.2.1 dX2_entry_63 rfl (lv_at hl 0 rfl) ?_
          obtain ⟨g_9, hf⟩ := gif hf
          refine r_iald hM.fx hM.kf hH (hLC.in (hLC.ch hg0 (by decide) gch_3_1) (by decide)) (⟨by decide, by decide⟩ : gAr 656 0) hx_2 g_9 dX2_entry_64 ?_
          have hr_10 := hH.2.2.i (k := x_2.toNat) (hLC.in (hLC.ch hg0 (by decide) gch_3_1) (by decide)).2.2 (glg_a (⟨by decide, by decide⟩ : gAr 656 0))
          obtain rfl := Option.some.inj hf
          exact r_iret hM hH hr_10 ⟨(Nat.le_of_ble_eq_true rfl), (Nat.le_of_ble_eq_true rfl)⟩ dX2_entry_65
        · have hf := gneg' h_8 hf
          by_cases h_11 : x2 = 2
          · refine r_tsIn (tgt := 66) hM.fx hr2 2 dX2_entry_25 h_11 (by decide) rfl (by decide) ?_
            have hf := gpos h_11 hf
            refine lv_aload_n hM.fx.1 hM.fx.2.1 dX2_entry_66 rfl (lv_at hl 1 rfl) ?_
            refine r_getR hM.fx hM.kf hH hLC fl_X2_18 hg0 gch_3_2 dX2_entry_67 ?_
            refine lv_iload_n hM.fx.1 hM.fx.2.1 dX2_entry_70 rfl (lv_at hl 0 rfl) ?_
            obtain ⟨g_12, hf⟩ := gif hf
            refine r_iald hM.fx hM.kf hH (hLC.in (hLC.ch hg0 (by decide) gch_3_2) (by decide)) (⟨by decide, by decide⟩ : gAr 656 0) hx_2 g_12 dX2_entry_71 ?_
            have hr_13 := hH.2.2.i (k := x_2.toNat) (hLC.in (hLC.ch hg0 (by decide) gch_3_2) (by decide)).2.2 (glg_a (⟨by decide, by decide⟩ : gAr 656 0))
            obtain rfl := Option.some.inj hf
            exact r_iret hM hH hr_13 ⟨(Nat.le_of_ble_eq_true rfl), (Nat.le_of_ble_eq_true rfl)⟩ dX2_entry_72
          · have hf := gneg' h_11 hf
            refine r_tsOut (tgt := 73) hM.fx hr2 dX2_entry_25 (by omega) (by decide) ?_
            refine lv_aload_n hM.fx.1 hM.fx.2.1 dX2_entry_73 rfl (lv_at hl 1 rfl) ?_
            refine r_getR hM.fx hM.kf hH hLC fl_X2_21 hg0 gch_3_3 dX2_entry_74 ?_
            refine lv_iload_n hM.fx.1 hM.fx.2.1 dX2_entry_77 rfl (lv_at hl 0 rfl) ?_
            obtain ⟨g_14, hf⟩ := gif hf
            refine r_iald hM.fx hM.kf hH (hLC.in (hLC.ch hg0 (by decide) gch_3_3) (by decide)) (⟨by decide, by decide⟩ : gAr 656 0) hx_2 g_14 dX2_entry_78 ?_
            have hr_15 := hH.2.2.i (k := x_2.toNat) (hLC.in (hLC.ch hg0 (by decide) gch_3_3) (by decide)).2.2 (glg_a (⟨by decide, by decide⟩ : gAr 656 0))
            obtain rfl := Option.some.inj hf
            exact r_iret hM hH hr_15 ⟨(Nat.le_of_ble_eq_true rfl), (Nat.le_of_ble_eq_true rfl)⟩ dX2_entry_79
    · have hf := gneg' h_4 hf
      refine lv_iconst (v := gi (-1)) hM.fx.1 hM.fx.2.1 dX2_entry_22 rfl ?_
      obtain rfl := Option.some.inj hf
      exact r_iret hM hH (gcR (k := -1) (by decide)) ⟨(Nat.le_of_ble_eq_true rfl), (Nat.le_of_ble_eq_true rfl)⟩ dX2_entry_23
def fX3_isFull (g : Nat → Nat) (a0 : Nat) (M : gMem) : Option Int :=
  if M a0 1 < M a0 2 then (some 0) else (some 1)
set_option maxHeartbeats 4000000 in
set_option maxRecDepth 100000 in
theorem mX3_isFull {w : gW} {n : Nat} {Rm : Nat → Nat → Nat} {g : Nat → Nat} (hLC : gLC g n Rm) {l : Launch} (hl9 : l.stackTraces = false) {a0 : Nat} {M : gMem} {r : Int} (hg0 : g a0 = 4) (hf : fX3_isFull g a0 M = some r) : gMT w n Rm l yX3_isFull cX3_isFull 1 (some .boolean) 1 60 0 0 [.ref (w.1 + a0)] M (.inr (some (.int (gi r)))) M (r = 0 ∨ r = 1) := by
  unfold fX3_isFull at hf
  refine gMT.of hl9 (by decide +kernel) ((Nat.le_of_ble_eq_true rfl)) ?_
  intro p e s m below meth c hM hH ls hl
  have hM : gMC w p l s m ([.ref (w.1 + a0)] : List Value).toArray meth c cX3_isFull 1 RX3 (some .boolean) := hM
  have hl : lv_has ls 1 [(0, .ref (w.1 + a0))] := hl
  refine lv_aload_n hM.fx.1 hM.fx.2.1 dX3_isFull_0 rfl (lv_at hl 0 rfl) ?_
  refine r_getI hM.fx hM.kf hH fl_X3_15 (hLC.in hg0 (by decide)) dX3_isFull_1 ?_
  have hr_1 := hH.2.2.i (hLC.in hg0 (by decide)).2.2 (by decide : glg 4 1 = false)
  refine lv_aload_n hM.fx.1 hM.fx.2.1 dX3_isFull_4 rfl (lv_at hl 0 rfl) ?_
  refine r_getI hM.fx hM.kf hH fl_X3_19 (hLC.in hg0 (by decide)) dX3_isFull_5 ?_
  have hr_2 := hH.2.2.i (hLC.in hg0 (by decide)).2.2 (by decide : glg 4 2 = false)
  refine r_icmp_lt (tgt := 15) hM.fx hr_1 hr_2 dX3_isFull_8 (by decide) (fun h_3 => ?_) (fun h_3 => ?_)
  · have hf := gpos h_3 hf
    refine lv_iconst (v := gi (0)) hM.fx.1 hM.fx.2.1 dX3_isFull_15 rfl ?_
    obtain rfl := Option.some.inj hf
    exact r_zret hM hH (Or.inl rfl) (Or.inl rfl) ⟨(Nat.le_of_ble_eq_true rfl), (Nat.le_of_ble_eq_true rfl)⟩ dX3_isFull_16
  · have hf := gneg' h_3 hf
    refine lv_iconst (v := gi (1)) hM.fx.1 hM.fx.2.1 dX3_isFull_11 rfl ?_
    refine lv_goto (tgt := 16) hM.fx.1 hM.fx.2.1 dX3_isFull_12 (by decide) ?_
    obtain rfl := Option.some.inj hf
    exact r_zret hM hH (Or.inr rfl) (Or.inr rfl) ⟨(Nat.le_of_ble_eq_true rfl), (Nat.le_of_ble_eq_true rfl)⟩ dX3_isFull_16
def fX3_numberAt_24 (g : Nat → Nat)  (M : gMem) : Option Int :=
  some (-1000000)
set_option maxHeartbeats 4000000 in
set_option maxRecDepth 100000 in
theorem wX3_numberAt_24 {w : gW} {n : Nat} {Rm : Nat → Nat → Nat} {g : Nat → Nat} (hLC : gLC g n Rm) {p : Program} {l : Launch} {e : Env} {s : State} {m : MethodId} {args : Array Value} {below : List Frame} {meth : Method} {c : Code} (hM : gMC w p l s m args meth c cX3_numberAt 2 RX3 (some .int))  : ∀  (M : gMem) (r : Int)  (hf : fX3_numberAt_24 g M = some r) (H : Heap) (locs : List Loc) (ls : Array Slot) (hH : gH w n Rm M s H locs) (hl : lv_has ls 2 []), W p l e { frames := 1, cells := 0, slots := 0, locals := 60 } s m args below meth c H locs 0 0 (gQ w n Rm below args s 0 0 (.inr (some (.int (gi r)))) M (gRI r)) (F0 m 24 ls []) := by
  intro M r hf H locs ls hH hl
  unfold fX3_numberAt_24 at hf
  refine r_ldc (x := -1000000) hM.fx gw_771 (by decide) dX3_numberAt_24 ?_
  obtain rfl := Option.some.inj hf
  exact r_iret hM hH (gcR (k := -1000000) (by decide)) ⟨(Nat.le_of_ble_eq_true rfl), (Nat.le_of_ble_eq_true rfl)⟩ dX3_numberAt_26
def fX3_numberAt (g : Nat → Nat) (a0 : Nat) (x1 : Int) (M : gMem) : Option Int :=
  if x1 < 0 then (fX3_numberAt_24 g M) else (if M a0 1 ≤ x1 then (fX3_numberAt_24 g M) else (if M a0 1 ≤ 16 then (if 0 ≤ gwi (gwi (M a0 1 - 1) - x1) ∧ gwi (gwi (M a0 1 - 1) - x1) < 16 then some (M (a0 + 1) (gwi (gwi (M a0 1 - 1) - x1)).toNat) else none) else (fX3_numberAt_24 g M)))
set_option maxHeartbeats 4000000 in
set_option maxRecDepth 100000 in
theorem mX3_numberAt {w : gW} {n : Nat} {Rm : Nat → Nat → Nat} {g : Nat → Nat} (hLC : gLC g n Rm) {l : Launch} (hl9 : l.stackTraces = false) {a0 : Nat} {x1 : Int} {M : gMem} {r : Int} (hg0 : g a0 = 4) (hr1 : gRI x1) (hf : fX3_numberAt g a0 x1 M = some r) : gMT w n Rm l yX3_numberAt cX3_numberAt 2 (some .int) 1 60 0 0 [.ref (w.1 + a0), .int (gi x1)] M (.inr (some (.int (gi r)))) M (gRI r) := by
  unfold fX3_numberAt at hf
  refine gMT.of hl9 (by decide +kernel) ((Nat.le_of_ble_eq_true rfl)) ?_
  intro p e s m below meth c hM hH ls hl
  have hM : gMC w p l s m ([.ref (w.1 + a0), .int (gi x1)] : List Value).toArray meth c cX3_numberAt 2 RX3 (some .int) := hM
  have hl : lv_has ls 2 [(0, .ref (w.1 + a0)), (1, .int (gi x1))] := hl
  refine lv_iload_n hM.fx.1 hM.fx.2.1 dX3_numberAt_0 rfl (lv_at hl 1 rfl) ?_
  refine r_if_lt (tgt := 24) hM.fx hr1 dX3_numberAt_1 (by decide) (fun h_1 => ?_) (fun h_1 => ?_)
  · have hf := gpos h_1 hf
    exact wX3_numberAt_24 hLC hM   _ _ hf _ _ _ hH (lv_sub hl [] rfl)
  · have hf := gneg' h_1 hf
    refine lv_iload_n hM.fx.1 hM.fx.2.1 dX3_numberAt_4 rfl (lv_at hl 1 rfl) ?_
    refine lv_aload_n hM.fx.1 hM.fx.2.1 dX3_numberAt_5 rfl (lv_at hl 0 rfl) ?_
    refine r_getI hM.fx hM.kf hH fl_X3_15 (hLC.in hg0 (by decide)) dX3_numberAt_6 ?_
    have hr_2 := hH.2.2.i (hLC.in hg0 (by decide)).2.2 (by decide : glg 4 1 = false)
    refine r_icmp_ge (tgt := 24) hM.fx hr1 hr_2 dX3_numberAt_9 (by decide) (fun h_3 => ?_) (fun h_3 => ?_)
    · have hf := gpos h_3 hf
      exact wX3_numberAt_24 hLC hM   _ _ hf _ _ _ hH (lv_sub hl [] rfl)
    · have hf := gneg' h_3 hf
      refine lv_aload_n hM.fx.1 hM.fx.2.1 dX3_numberAt_12 rfl (lv_at hl 0 rfl) ?_
      refine r_getI hM.fx hM.kf hH fl_X3_15 (hLC.in hg0 (by decide)) dX3_numberAt_13 ?_
      have hr_4 := hH.2.2.i (hLC.in hg0 (by decide)).2.2 (by decide : glg 4 1 = false)
      refine lv_aload_n hM.fx.1 hM.fx.2.1 dX3_numberAt_16 rfl (lv_at hl 0 rfl) ?_
      refine r_getR hM.fx hM.kf hH hLC fl_X3_9 hg0 gch_4_0 dX3_numberAt_17 ?_
      refine r_alen hM.fx hM.kf hH 0 rfl (hLC.in (hLC.ch hg0 (by decide) gch_4_0) (by decide)) (⟨by decide, by decide⟩ : gAr 272 0) rfl dX3_numberAt_20 ?_
      refine r_icmp_le (tgt := 27) hM.fx hr_4 (gcR (k := 16) (by decide)) dX3_numberAt_21 (by decide) (fun h_5 => ?_) (fun h_5 => ?_)
      · have hf := gpos h_5 hf
        refine lv_aload_n hM.fx.1 hM.fx.2.1 dX3_numberAt_27 rfl (lv_at hl 0 rfl) ?_
        refine r_getR hM.fx hM.kf hH hLC fl_X3_9 hg0 gch_4_0 dX3_numberAt_28 ?_
        refine lv_aload_n hM.fx.1 hM.fx.2.1 dX3_numberAt_31 rfl (lv_at hl 0 rfl) ?_
        refine r_getI hM.fx hM.kf hH fl_X3_15 (hLC.in hg0 (by decide)) dX3_numberAt_32 ?_
        have hr_6 := hH.2.2.i (hLC.in hg0 (by decide)).2.2 (by decide : glg 4 1 = false)
        refine lv_iconst (v := gi (1)) hM.fx.1 hM.fx.2.1 dX3_numberAt_35 rfl ?_
        refine r_isub hM.fx dX3_numberAt_36 ?_
        refine lv_iload_n hM.fx.1 hM.fx.2.1 dX3_numberAt_37 rfl (lv_at hl 1 rfl) ?_
        refine r_isub hM.fx dX3_numberAt_38 ?_
        obtain ⟨g_7, hf⟩ := gif hf
        refine r_iald hM.fx hM.kf hH (hLC.in (hLC.ch hg0 (by decide) gch_4_0) (by decide)) (⟨by decide, by decide⟩ : gAr 272 0) (gwi_r _) g_7 dX3_numberAt_39 ?_
        have hr_8 := hH.2.2.i (k := (gwi (gwi (M a0 1 - 1) - x1)).toNat) (hLC.in (hLC.ch hg0 (by decide) gch_4_0) (by decide)).2.2 (glg_a (⟨by decide, by decide⟩ : gAr 272 0))
        obtain rfl := Option.some.inj hf
        exact r_iret hM hH hr_8 ⟨(Nat.le_of_ble_eq_true rfl), (Nat.le_of_ble_eq_true rfl)⟩ dX3_numberAt_40
      · have hf := gneg' h_5 hf
        exact wX3_numberAt_24 hLC hM   _ _ hf _ _ _ hH (lv_sub hl [] rfl)
def fX3_addTop (g : Nat → Nat) (a0 : Nat) (x1 : Int) (M : gMem) : Option gMem :=
  if M a0 1 < 0 then (some M) else (if M a0 2 ≤ M a0 1 then (some M) else (if 16 ≤ M a0 1 then (some M) else (if 0 ≤ M a0 1 ∧ M a0 1 < 16 then gst (gup M (a0 + 1) (M a0 1).toNat x1) fun M_10 => gst (gup M_10 a0 1 (gwi (M_10 a0 1 + 1))) fun M_12 => some M_12 else none)))
set_option maxHeartbeats 4000000 in
set_option maxRecDepth 100000 in
theorem mX3_addTop {w : gW} {n : Nat} {Rm : Nat → Nat → Nat} {g : Nat → Nat} (hLC : gLC g n Rm) {l : Launch} (hl9 : l.stackTraces = false) {a0 : Nat} {x1 : Int} {M : gMem} {r : gMem} (hg0 : g a0 = 4) (hr1 : gRI x1) (hf : fX3_addTop g a0 x1 M = some r) : gMT w n Rm l yX3_addTop cX3_addTop 2 none 1 60 0 0 [.ref (w.1 + a0), .int (gi x1)] M (.inr none) r True := by
  unfold fX3_addTop at hf
  refine gMT.of hl9 (by decide +kernel) ((Nat.le_of_ble_eq_true rfl)) ?_
  intro p e s m below meth c hM hH ls hl
  have hM : gMC w p l s m ([.ref (w.1 + a0), .int (gi x1)] : List Value).toArray meth c cX3_addTop 2 RX3 none := hM
  have hl : lv_has ls 2 [(0, .ref (w.1 + a0)), (1, .int (gi x1))] := hl
  refine lv_aload_n hM.fx.1 hM.fx.2.1 dX3_addTop_0 rfl (lv_at hl 0 rfl) ?_
  refine r_getI hM.fx hM.kf hH fl_X3_15 (hLC.in hg0 (by decide)) dX3_addTop_1 ?_
  have hr_1 := hH.2.2.i (hLC.in hg0 (by decide)).2.2 (by decide : glg 4 1 = false)
  refine r_if_lt (tgt := 50) hM.fx hr_1 dX3_addTop_4 (by decide) (fun h_2 => ?_) (fun h_2 => ?_)
  · have hf := gpos h_2 hf
    obtain rfl := Option.some.inj hf
    exact r_vret hM hH trivial ⟨(Nat.le_of_ble_eq_true rfl), (Nat.le_of_ble_eq_true rfl)⟩ dX3_addTop_50
  · have hf := gneg' h_2 hf
    refine lv_aload_n hM.fx.1 hM.fx.2.1 dX3_addTop_7 rfl (lv_at hl 0 rfl) ?_
    refine r_getI hM.fx hM.kf hH fl_X3_15 (hLC.in hg0 (by decide)) dX3_addTop_8 ?_
    have hr_3 := hH.2.2.i (hLC.in hg0 (by decide)).2.2 (by decide : glg 4 1 = false)
    refine lv_aload_n hM.fx.1 hM.fx.2.1 dX3_addTop_11 rfl (lv_at hl 0 rfl) ?_
    refine r_getI hM.fx hM.kf hH fl_X3_19 (hLC.in hg0 (by decide)) dX3_addTop_12 ?_
    have hr_4 := hH.2.2.i (hLC.in hg0 (by decide)).2.2 (by decide : glg 4 2 = false)
    refine r_icmp_ge (tgt := 50) hM.fx hr_3 hr_4 dX3_addTop_15 (by decide) (fun h_5 => ?_) (fun h_5 => ?_)
    · have hf := gpos h_5 hf
      obtain rfl := Option.some.inj hf
      exact r_vret hM hH trivial ⟨(Nat.le_of_ble_eq_true rfl), (Nat.le_of_ble_eq_true rfl)⟩ dX3_addTop_50
    · have hf := gneg' h_5 hf
      refine lv_aload_n hM.fx.1 hM.fx.2.1 dX3_addTop_18 rfl (lv_at hl 0 rfl) ?_
      refine r_getI hM.fx hM.kf hH fl_X3_15 (hLC.in hg0 (by decide)) dX3_addTop_19 ?_
      have hr_6 := hH.2.2.i (hLC.in hg0 (by decide)).2.2 (by decide : glg 4 1 = false)
      refine lv_aload_n hM.fx.1 hM.fx.2.1 dX3_addTop_22 rfl (lv_at hl 0 rfl) ?_
      refine r_getR hM.fx hM.kf hH hLC fl_X3_9 hg0 gch_4_0 dX3_addTop_23 ?_
      refine r_alen hM.fx hM.kf hH 0 rfl (hLC.in (hLC.ch hg0 (by decide) gch_4_0) (by decide)) (⟨by decide, by decide⟩ : gAr 272 0) rfl dX3_addTop_26 ?_
      refine r_icmp_ge (tgt := 50) hM.fx hr_6 (gcR (k := 16) (by decide)) dX3_addTop_27 (by decide) (fun h_7 => ?_) (fun h_7 => ?_)
      · have hf := gpos h_7 hf
        obtain rfl := Option.some.inj hf
        exact r_vret hM hH trivial ⟨(Nat.le_of_ble_eq_true rfl), (Nat.le_of_ble_eq_true rfl)⟩ dX3_addTop_50
      · have hf := gneg' h_7 hf
        refine lv_aload_n hM.fx.1 hM.fx.2.1 dX3_addTop_30 rfl (lv_at hl 0 rfl) ?_
        refine r_getR hM.fx hM.kf hH hLC fl_X3_9 hg0 gch_4_0 dX3_addTop_31 ?_
        refine lv_aload_n hM.fx.1 hM.fx.2.1 dX3_addTop_34 rfl (lv_at hl 0 rfl) ?_
        refine r_getI hM.fx hM.kf hH fl_X3_15 (hLC.in hg0 (by decide)) dX3_addTop_35 ?_
        have hr_8 := hH.2.2.i (hLC.in hg0 (by decide)).2.2 (by decide : glg 4 1 = false)
        refine lv_iload_n hM.fx.1 hM.fx.2.1 dX3_addTop_38 rfl (lv_at hl 1 rfl) ?_
        obtain ⟨g_9, hf⟩ := gif hf
        refine r_iast hM.fx hM.kf hH (hLC.in (hLC.ch hg0 (by decide) gch_4_0) (by decide)) (⟨by decide, by decide⟩ : gAr 272 0) hr_8 g_9 hr1 dX3_addTop_39 (fun H locs hH => ?_)
        obtain ⟨M_10, eM_10, hf⟩ := gst_s hf
        rw [← eM_10] at hH
        refine lv_aload_n hM.fx.1 hM.fx.2.1 dX3_addTop_40 rfl (lv_at hl 0 rfl) ?_
        refine lv_dup hM.fx.1 hM.fx.2.1 dX3_addTop_41 rfl ?_
        refine r_getI hM.fx hM.kf hH fl_X3_15 (hLC.in hg0 (by decide)) dX3_addTop_42 ?_
        have hr_11 := hH.2.2.i (hLC.in hg0 (by decide)).2.2 (by decide : glg 4 1 = false)
        refine lv_iconst (v := gi (1)) hM.fx.1 hM.fx.2.1 dX3_addTop_45 rfl ?_
        refine r_iadd hM.fx dX3_addTop_46 ?_
        refine r_putI hM.fx hM.kf hH fp_X3_15 (hLC.in hg0 (by decide)) (gwi_r _) dX3_addTop_47 (fun H locs hH => ?_)
        obtain ⟨M_12, eM_12, hf⟩ := gst_s hf
        rw [← eM_12] at hH
        obtain rfl := Option.some.inj hf
        exact r_vret hM hH trivial ⟨(Nat.le_of_ble_eq_true rfl), (Nat.le_of_ble_eq_true rfl)⟩ dX3_addTop_50
def fX4_kindAt (g : Nat → Nat) (a0 : Nat) (x1 : Int) (M : gMem) : Option Int :=
  if x1 < 0 then (some (-1)) else (if M a0 4 ≤ x1 then (some (-1)) else (if 24 ≤ x1 then (some (-1)) else (if 0 ≤ x1 ∧ x1 < 24 then some (M (a0 + 1) x1.toNat) else none)))
set_option maxHeartbeats 4000000 in
set_option maxRecDepth 100000 in
theorem mX4_kindAt {w : gW} {n : Nat} {Rm : Nat → Nat → Nat} {g : Nat → Nat} (hLC : gLC g n Rm) {l : Launch} (hl9 : l.stackTraces = false) {a0 : Nat} {x1 : Int} {M : gMem} {r : Int} (hg0 : g a0 = 5) (hr1 : gRI x1) (hf : fX4_kindAt g a0 x1 M = some r) : gMT w n Rm l yX4_kindAt cX4_kindAt 2 (some .int) 1 60 0 0 [.ref (w.1 + a0), .int (gi x1)] M (.inr (some (.int (gi r)))) M (gRI r) := by
  unfold fX4_kindAt at hf
  refine gMT.of hl9 (by decide +kernel) ((Nat.le_of_ble_eq_true rfl)) ?_
  intro p e s m below meth c hM hH ls hl
  have hM : gMC w p l s m ([.ref (w.1 + a0), .int (gi x1)] : List Value).toArray meth c cX4_kindAt 2 RX4 (some .int) := hM
  have hl : lv_has ls 2 [(0, .ref (w.1 + a0)), (1, .int (gi x1))] := hl
  refine lv_iload_n hM.fx.1 hM.fx.2.1 dX4_kindAt_0 rfl (lv_at hl 1 rfl) ?_
  refine r_if_lt (tgt := 30) hM.fx hr1 dX4_kindAt_1 (by decide) (fun h_1 => ?_) (fun h_1 => ?_)
  · have hf := gpos h_1 hf
    refine lv_iconst (v := gi (-1)) hM.fx.1 hM.fx.2.1 dX4_kindAt_30 rfl ?_
    obtain rfl := Option.some.inj hf
    exact r_iret hM hH (gcR (k := -1) (by decide)) ⟨(Nat.le_of_ble_eq_true rfl), (Nat.le_of_ble_eq_true rfl)⟩ dX4_kindAt_31
  · have hf := gneg' h_1 hf
    refine lv_iload_n hM.fx.1 hM.fx.2.1 dX4_kindAt_4 rfl (lv_at hl 1 rfl) ?_
    refine lv_aload_n hM.fx.1 hM.fx.2.1 dX4_kindAt_5 rfl (lv_at hl 0 rfl) ?_
    refine r_getI hM.fx hM.kf hH fl_X4_25 (hLC.in hg0 (by decide)) dX4_kindAt_6 ?_
    have hr_2 := hH.2.2.i (hLC.in hg0 (by decide)).2.2 (by decide : glg 5 4 = false)
    refine r_icmp_ge (tgt := 30) hM.fx hr1 hr_2 dX4_kindAt_9 (by decide) (fun h_3 => ?_) (fun h_3 => ?_)
    · have hf := gpos h_3 hf
      refine lv_iconst (v := gi (-1)) hM.fx.1 hM.fx.2.1 dX4_kindAt_30 rfl ?_
      obtain rfl := Option.some.inj hf
      exact r_iret hM hH (gcR (k := -1) (by decide)) ⟨(Nat.le_of_ble_eq_true rfl), (Nat.le_of_ble_eq_true rfl)⟩ dX4_kindAt_31
    · have hf := gneg' h_3 hf
      refine lv_iload_n hM.fx.1 hM.fx.2.1 dX4_kindAt_12 rfl (lv_at hl 1 rfl) ?_
      refine lv_aload_n hM.fx.1 hM.fx.2.1 dX4_kindAt_13 rfl (lv_at hl 0 rfl) ?_
      refine r_getR hM.fx hM.kf hH hLC fl_X4_9 hg0 gch_5_0 dX4_kindAt_14 ?_
      refine r_alen hM.fx hM.kf hH 0 rfl (hLC.in (hLC.ch hg0 (by decide) gch_5_0) (by decide)) (⟨by decide, by decide⟩ : gAr 400 0) rfl dX4_kindAt_17 ?_
      refine r_icmp_ge (tgt := 30) hM.fx hr1 (gcR (k := 24) (by decide)) dX4_kindAt_18 (by decide) (fun h_4 => ?_) (fun h_4 => ?_)
      · have hf := gpos h_4 hf
        refine lv_iconst (v := gi (-1)) hM.fx.1 hM.fx.2.1 dX4_kindAt_30 rfl ?_
        obtain rfl := Option.some.inj hf
        exact r_iret hM hH (gcR (k := -1) (by decide)) ⟨(Nat.le_of_ble_eq_true rfl), (Nat.le_of_ble_eq_true rfl)⟩ dX4_kindAt_31
      · have hf := gneg' h_4 hf
        refine lv_aload_n hM.fx.1 hM.fx.2.1 dX4_kindAt_21 rfl (lv_at hl 0 rfl) ?_
        refine r_getR hM.fx hM.kf hH hLC fl_X4_9 hg0 gch_5_0 dX4_kindAt_22 ?_
        refine lv_iload_n hM.fx.1 hM.fx.2.1 dX4_kindAt_25 rfl (lv_at hl 1 rfl) ?_
        obtain ⟨g_5, hf⟩ := gif hf
        refine r_iald hM.fx hM.kf hH (hLC.in (hLC.ch hg0 (by decide) gch_5_0) (by decide)) (⟨by decide, by decide⟩ : gAr 400 0) hr1 g_5 dX4_kindAt_26 ?_
        have hr_6 := hH.2.2.i (k := x1.toNat) (hLC.in (hLC.ch hg0 (by decide) gch_5_0) (by decide)).2.2 (glg_a (⟨by decide, by decide⟩ : gAr 400 0))
        refine lv_goto (tgt := 31) hM.fx.1 hM.fx.2.1 dX4_kindAt_27 (by decide) ?_
        obtain rfl := Option.some.inj hf
        exact r_iret hM hH hr_6 ⟨(Nat.le_of_ble_eq_true rfl), (Nat.le_of_ble_eq_true rfl)⟩ dX4_kindAt_31
def fX4_operandAt (g : Nat → Nat) (a0 : Nat) (x1 : Int) (M : gMem) : Option Int :=
  if x1 < 0 then (some 0) else (if M a0 4 ≤ x1 then (some 0) else (if 24 ≤ x1 then (some 0) else (if 0 ≤ x1 ∧ x1 < 24 then some (M (a0 + 2) x1.toNat) else none)))
set_option maxHeartbeats 4000000 in
set_option maxRecDepth 100000 in
theorem mX4_operandAt {w : gW} {n : Nat} {Rm : Nat → Nat → Nat} {g : Nat → Nat} (hLC : gLC g n Rm) {l : Launch} (hl9 : l.stackTraces = false) {a0 : Nat} {x1 : Int} {M : gMem} {r : Int} (hg0 : g a0 = 5) (hr1 : gRI x1) (hf : fX4_operandAt g a0 x1 M = some r) : gMT w n Rm l yX4_operandAt cX4_operandAt 2 (some .int) 1 60 0 0 [.ref (w.1 + a0), .int (gi x1)] M (.inr (some (.int (gi r)))) M (gRI r) := by
  unfold fX4_operandAt at hf
  refine gMT.of hl9 (by decide +kernel) ((Nat.le_of_ble_eq_true rfl)) ?_
  intro p e s m below meth c hM hH ls hl
  have hM : gMC w p l s m ([.ref (w.1 + a0), .int (gi x1)] : List Value).toArray meth c cX4_operandAt 2 RX4 (some .int) := hM
  have hl : lv_has ls 2 [(0, .ref (w.1 + a0)), (1, .int (gi x1))] := hl
  refine lv_iload_n hM.fx.1 hM.fx.2.1 dX4_operandAt_0 rfl (lv_at hl 1 rfl) ?_
  refine r_if_lt (tgt := 30) hM.fx hr1 dX4_operandAt_1 (by decide) (fun h_1 => ?_) (fun h_1 => ?_)
  · have hf := gpos h_1 hf
    refine lv_iconst (v := gi (0)) hM.fx.1 hM.fx.2.1 dX4_operandAt_30 rfl ?_
    obtain rfl := Option.some.inj hf
    exact r_iret hM hH (gcR (k := 0) (by decide)) ⟨(Nat.le_of_ble_eq_true rfl), (Nat.le_of_ble_eq_true rfl)⟩ dX4_operandAt_31
  · have hf := gneg' h_1 hf
    refine lv_iload_n hM.fx.1 hM.fx.2.1 dX4_operandAt_4 rfl (lv_at hl 1 rfl) ?_
    refine lv_aload_n hM.fx.1 hM.fx.2.1 dX4_operandAt_5 rfl (lv_at hl 0 rfl) ?_
    refine r_getI hM.fx hM.kf hH fl_X4_25 (hLC.in hg0 (by decide)) dX4_operandAt_6 ?_
    have hr_2 := hH.2.2.i (hLC.in hg0 (by decide)).2.2 (by decide : glg 5 4 = false)
    refine r_icmp_ge (tgt := 30) hM.fx hr1 hr_2 dX4_operandAt_9 (by decide) (fun h_3 => ?_) (fun h_3 => ?_)
    · have hf := gpos h_3 hf
      refine lv_iconst (v := gi (0)) hM.fx.1 hM.fx.2.1 dX4_operandAt_30 rfl ?_
      obtain rfl := Option.some.inj hf
      exact r_iret hM hH (gcR (k := 0) (by decide)) ⟨(Nat.le_of_ble_eq_true rfl), (Nat.le_of_ble_eq_true rfl)⟩ dX4_operandAt_31
    · have hf := gneg' h_3 hf
      refine lv_iload_n hM.fx.1 hM.fx.2.1 dX4_operandAt_12 rfl (lv_at hl 1 rfl) ?_
      refine lv_aload_n hM.fx.1 hM.fx.2.1 dX4_operandAt_13 rfl (lv_at hl 0 rfl) ?_
      refine r_getR hM.fx hM.kf hH hLC fl_X4_15 hg0 gch_5_1 dX4_operandAt_14 ?_
      refine r_alen hM.fx hM.kf hH 0 rfl (hLC.in (hLC.ch hg0 (by decide) gch_5_1) (by decide)) (⟨by decide, by decide⟩ : gAr 400 0) rfl dX4_operandAt_17 ?_
      refine r_icmp_ge (tgt := 30) hM.fx hr1 (gcR (k := 24) (by decide)) dX4_operandAt_18 (by decide) (fun h_4 => ?_) (fun h_4 => ?_)
      · have hf := gpos h_4 hf
        refine lv_iconst (v := gi (0)) hM.fx.1 hM.fx.2.1 dX4_operandAt_30 rfl ?_
        obtain rfl := Option.some.inj hf
        exact r_iret hM hH (gcR (k := 0) (by decide)) ⟨(Nat.le_of_ble_eq_true rfl), (Nat.le_of_ble_eq_true rfl)⟩ dX4_operandAt_31
      · have hf := gneg' h_4 hf
        refine lv_aload_n hM.fx.1 hM.fx.2.1 dX4_operandAt_21 rfl (lv_at hl 0 rfl) ?_
        refine r_getR hM.fx hM.kf hH hLC fl_X4_15 hg0 gch_5_1 dX4_operandAt_22 ?_
        refine lv_iload_n hM.fx.1 hM.fx.2.1 dX4_operandAt_25 rfl (lv_at hl 1 rfl) ?_
        obtain ⟨g_5, hf⟩ := gif hf
        refine r_iald hM.fx hM.kf hH (hLC.in (hLC.ch hg0 (by decide) gch_5_1) (by decide)) (⟨by decide, by decide⟩ : gAr 400 0) hr1 g_5 dX4_operandAt_26 ?_
        have hr_6 := hH.2.2.i (k := x1.toNat) (hLC.in (hLC.ch hg0 (by decide) gch_5_1) (by decide)).2.2 (glg_a (⟨by decide, by decide⟩ : gAr 400 0))
        refine lv_goto (tgt := 31) hM.fx.1 hM.fx.2.1 dX4_operandAt_27 (by decide) ?_
        obtain rfl := Option.some.inj hf
        exact r_iret hM hH hr_6 ⟨(Nat.le_of_ble_eq_true rfl), (Nat.le_of_ble_eq_true rfl)⟩ dX4_operandAt_31
def fX4_hasCommand_30 (g : Nat → Nat) (k2 : Nat → Int → Int → Int → gMem → Option Int) (a0 : Nat) (x1 : Int) (x2 : Int) (x3 : Int) (M : gMem) : Option Int :=
  gst (gwi (x3 + 1)) fun x_1 => k2 a0 x1 x2 x_1 M
set_option maxHeartbeats 4000000 in
set_option maxRecDepth 100000 in
theorem wX4_hasCommand_30 {w : gW} {n : Nat} {Rm : Nat → Nat → Nat} {g : Nat → Nat} (hLC : gLC g n Rm) {p : Program} {l : Launch} {e : Env} {s : State} {m : MethodId} {args : Array Value} {below : List Frame} {meth : Method} {c : Code} (hM : gMC w p l s m args meth c cX4_hasCommand 4 RX4 (some .boolean)) (k2 : Nat → Int → Int → Int → gMem → Option Int) (hk2 : ∀ (a0 : Nat) (x1 : Int) (x2 : Int) (x3 : Int) (M : gMem) (r : Int) (hg0 : g a0 = 5) (hr1 : gRI x1) (hr2 : gRI x2) (hr3 : gRI x3) (hf : k2 a0 x1 x2 x3 M = some r) (H : Heap) (locs : List Loc) (ls : Array Slot) (hH : gH w n Rm M s H locs) (hl : lv_has ls 4 [(0, .ref (w.1 + a0)), (1, .int (gi x1)), (2, .int (gi x2)), (3, .int (gi x3))]), W p l e { frames := 2, cells := 0, slots := 0, locals := 81 } s m args below meth c H locs 0 0 (gQ w n Rm below args s 0 0 (.inr (some (.int (gi r)))) M (r = 0 ∨ r = 1)) (F0 m 2 ls [])) : ∀ (a0 : Nat) (x1 : Int) (x2 : Int) (x3 : Int) (M : gMem) (r : Int) (hg0 : g a0 = 5) (hr1 : gRI x1) (hr2 : gRI x2) (hr3 : gRI x3) (hf : fX4_hasCommand_30 g k2 a0 x1 x2 x3 M = some r) (H : Heap) (locs : List Loc) (ls : Array Slot) (hH : gH w n Rm M s H locs) (hl : lv_has ls 4 [(0, .ref (w.1 + a0)), (1, .int (gi x1)), (2, .int (gi x2)), (3, .int (gi x3))]), W p l e { frames := 2, cells := 0, slots := 0, locals := 81 } s m args below meth c H locs 0 0 (gQ w n Rm below args s 0 0 (.inr (some (.int (gi r)))) M (r = 0 ∨ r = 1)) (F0 m 30 ls []) := by
  intro a0 x1 x2 x3 M r hg0 hr1 hr2 hr3 hf H locs ls hH hl
  unfold fX4_hasCommand_30 at hf
  obtain ⟨x_1, ex_1, hf⟩ := gst_s hf
  have hx_1 : gRI x_1 := by rw [ex_1]; exact gwi_r _
  refine r_iinc (lv' := [(3, .int (gi x_1)), (0, .ref (w.1 + a0)), (1, .int (gi x1)), (2, .int (gi x2))]) hM.fx dX4_hasCommand_30 hl (k := 3) rfl (by decide) (by rw [ex_1]; rfl) (fun ls hl => ?_)
  refine lv_goto (tgt := 2) hM.fx.1 hM.fx.2.1 dX4_hasCommand_33 (by decide) ?_
  exact hk2 _ _ _ _ _ _ hg0 hr1 hr2 hx_1 hf _ _ _ hH (lv_sub hl [1, 2, 3, 0] rfl)
def fX4_hasCommand_2 (g : Nat → Nat)  : Nat → Nat → Int → Int → Int → gMem → Option Int
  | 0, _, _, _, _, _ => none
  | fu + 1, a0, x1, x2, x3, M => if M a0 4 ≤ x3 then (some 0) else ((fX4_kindAt g a0 x3 M).bind fun x_4 => if x_4 = x1 then ((fX4_operandAt g a0 x3 M).bind fun x_7 => if x_7 = x2 then (some 1) else (fX4_hasCommand_30 g (fX4_hasCommand_2 g fu) a0 x1 x2 x3 M)) else (fX4_hasCommand_30 g (fX4_hasCommand_2 g fu) a0 x1 x2 x3 M))
set_option maxHeartbeats 4000000 in
set_option maxRecDepth 100000 in
theorem wX4_hasCommand_2 {w : gW} {n : Nat} {Rm : Nat → Nat → Nat} {g : Nat → Nat} (hLC : gLC g n Rm) {p : Program} {l : Launch} {e : Env} {s : State} {m : MethodId} {args : Array Value} {below : List Frame} {meth : Method} {c : Code} (hM : gMC w p l s m args meth c cX4_hasCommand 4 RX4 (some .boolean))  : ∀ (fu : Nat), ∀ (a0 : Nat) (x1 : Int) (x2 : Int) (x3 : Int) (M : gMem) (r : Int) (hg0 : g a0 = 5) (hr1 : gRI x1) (hr2 : gRI x2) (hr3 : gRI x3) (hf : fX4_hasCommand_2 g fu a0 x1 x2 x3 M = some r) (H : Heap) (locs : List Loc) (ls : Array Slot) (hH : gH w n Rm M s H locs) (hl : lv_has ls 4 [(0, .ref (w.1 + a0)), (1, .int (gi x1)), (2, .int (gi x2)), (3, .int (gi x3))]), W p l e { frames := 2, cells := 0, slots := 0, locals := 81 } s m args below meth c H locs 0 0 (gQ w n Rm below args s 0 0 (.inr (some (.int (gi r)))) M (r = 0 ∨ r = 1)) (F0 m 2 ls []) := by
  intro fu
  induction fu with
  | zero =>
    intro a0 x1 x2 x3 M r hg0 hr1 hr2 hr3 hf H locs ls hH hl
    exact absurd hf (by simp [fX4_hasCommand_2])
  | succ fu ih =>
    intro a0 x1 x2 x3 M r hg0 hr1 hr2 hr3 hf H locs ls hH hl
    unfold fX4_hasCommand_2 at hf
    refine lv_iload_n hM.fx.1 hM.fx.2.1 dX4_hasCommand_2 rfl (lv_at hl 3 rfl) ?_
    refine lv_aload_n hM.fx.1 hM.fx.2.1 dX4_hasCommand_3 rfl (lv_at hl 0 rfl) ?_
    refine r_getI hM.fx hM.kf hH fl_X4_25 (hLC.in hg0 (by decide)) dX4_hasCommand_4 ?_
    have hr_1 := hH.2.2.i (hLC.in hg0 (by decide)).2.2 (by decide : glg 5 4 = false)
    refine r_icmp_ge (tgt := 36) hM.fx hr3 hr_1 dX4_hasCommand_7 (by decide) (fun h_2 => ?_) (fun h_2 => ?_)
    · have hf := gpos h_2 hf
      refine lv_iconst (v := gi (0)) hM.fx.1 hM.fx.2.1 dX4_hasCommand_36 rfl ?_
      obtain rfl := Option.some.inj hf
      exact r_zret hM hH (Or.inl rfl) (Or.inl rfl) ⟨(Nat.le_of_ble_eq_true rfl), (Nat.le_of_ble_eq_true rfl)⟩ dX4_hasCommand_37
    · have hf := gneg' h_2 hf
      refine lv_aload_n hM.fx.1 hM.fx.2.1 dX4_hasCommand_10 rfl (lv_at hl 0 rfl) ?_
      refine lv_iload_n hM.fx.1 hM.fx.2.1 dX4_hasCommand_11 rfl (lv_at hl 3 rfl) ?_
      obtain ⟨x_4, ex_4, hf⟩ := gbd hf
      refine r_go1 hH rfl (r_runV (As := [.int (gi x3)]) hM hH cv_X4_65 (mX4_kindAt hLC hM.ns hg0 hr3 ex_4) (hLC.in hg0 (by decide)) (by decide) rfl rfl rfl hl.1 rfl (Nat.le_of_ble_eq_true rfl) ⟨(Nat.le_of_ble_eq_true rfl), (Nat.le_of_ble_eq_true rfl)⟩ ⟨(Nat.le_of_ble_eq_true rfl), (Nat.le_of_ble_eq_true rfl)⟩ dX4_hasCommand_12) (fun hp_3 H locs hH => ?_)
      refine lv_iload_n hM.fx.1 hM.fx.2.1 dX4_hasCommand_15 rfl (lv_at hl 1 rfl) ?_
      refine r_icmp_ne (tgt := 30) hM.fx hp_3 hr1 dX4_hasCommand_16 (by decide) (fun h_5 => ?_) (fun h_5 => ?_)
      · have hf := gneg' h_5 hf
        exact wX4_hasCommand_30 hLC hM (fX4_hasCommand_2 g fu) ih  _ _ _ _ _ _ hg0 hr1 hr2 hr3 hf _ _ _ hH hl
      · have hf := gpos h_5 hf
        refine lv_aload_n hM.fx.1 hM.fx.2.1 dX4_hasCommand_19 rfl (lv_at hl 0 rfl) ?_
        refine lv_iload_n hM.fx.1 hM.fx.2.1 dX4_hasCommand_20 rfl (lv_at hl 3 rfl) ?_
        obtain ⟨x_7, ex_7, hf⟩ := gbd hf
        refine r_go1 hH rfl (r_runV (As := [.int (gi x3)]) hM hH cv_X4_69 (mX4_operandAt hLC hM.ns hg0 hr3 ex_7) (hLC.in hg0 (by decide)) (by decide) rfl rfl rfl hl.1 rfl (Nat.le_of_ble_eq_true rfl) ⟨(Nat.le_of_ble_eq_true rfl), (Nat.le_of_ble_eq_true rfl)⟩ ⟨(Nat.le_of_ble_eq_true rfl), (Nat.le_of_ble_eq_true rfl)⟩ dX4_hasCommand_21) (fun hp_6 H locs hH => ?_)
        refine lv_iload_n hM.fx.1 hM.fx.2.1 dX4_hasCommand_24 rfl (lv_at hl 2 rfl) ?_
        refine r_icmp_ne (tgt := 30) hM.fx hp_6 hr2 dX4_hasCommand_25 (by decide) (fun h_8 => ?_) (fun h_8 => ?_)
        · have hf := gneg' h_8 hf
          exact wX4_hasCommand_30 hLC hM (fX4_hasCommand_2 g fu) ih  _ _ _ _ _ _ hg0 hr1 hr2 hr3 hf _ _ _ hH hl
        · have hf := gpos h_8 hf
          refine lv_iconst (v := gi (1)) hM.fx.1 hM.fx.2.1 dX4_hasCommand_28 rfl ?_
          obtain rfl := Option.some.inj hf
          exact r_zret hM hH (Or.inr rfl) (Or.inr rfl) ⟨(Nat.le_of_ble_eq_true rfl), (Nat.le_of_ble_eq_true rfl)⟩ dX4_hasCommand_29
def fX4_hasCommand (g : Nat → Nat) (a0 : Nat) (x1 : Int) (x2 : Int) (M : gMem) : Option Int :=
  fX4_hasCommand_2 g gF a0 x1 x2 0 M
set_option maxHeartbeats 4000000 in
set_option maxRecDepth 100000 in
theorem mX4_hasCommand {w : gW} {n : Nat} {Rm : Nat → Nat → Nat} {g : Nat → Nat} (hLC : gLC g n Rm) {l : Launch} (hl9 : l.stackTraces = false) {a0 : Nat} {x1 : Int} {x2 : Int} {M : gMem} {r : Int} (hg0 : g a0 = 5) (hr1 : gRI x1) (hr2 : gRI x2) (hf : fX4_hasCommand g a0 x1 x2 M = some r) : gMT w n Rm l yX4_hasCommand cX4_hasCommand 4 (some .boolean) 2 81 0 0 [.ref (w.1 + a0), .int (gi x1), .int (gi x2)] M (.inr (some (.int (gi r)))) M (r = 0 ∨ r = 1) := by
  unfold fX4_hasCommand at hf
  refine gMT.of hl9 (by decide +kernel) ((Nat.le_of_ble_eq_true rfl)) ?_
  intro p e s m below meth c hM hH ls hl
  have hM : gMC w p l s m ([.ref (w.1 + a0), .int (gi x1), .int (gi x2)] : List Value).toArray meth c cX4_hasCommand 4 RX4 (some .boolean) := hM
  have hl : lv_has ls 4 [(0, .ref (w.1 + a0)), (1, .int (gi x1)), (2, .int (gi x2))] := hl
  refine lv_iconst (v := gi (0)) hM.fx.1 hM.fx.2.1 dX4_hasCommand_0 rfl ?_
  refine lv_istore_n (lv' := [(3, .int (gi 0)), (0, .ref (w.1 + a0)), (1, .int (gi x1)), (2, .int (gi x2))]) hM.fx.1 hM.fx.2.1 dX4_hasCommand_1 rfl hl (by decide) rfl (fun ls hl => ?_)
  exact wX4_hasCommand_2 hLC hM  gF _ _ _ _ _ _ hg0 hr1 hr2 (gcR (k := 0) (by decide)) hf _ _ _ hH (lv_sub hl [1, 2, 3, 0] rfl)
def fX4_mayUse (g : Nat → Nat) (a0 : Nat) (x1 : Int) (M : gMem) : Option Int :=
  if gand (gshr (M a0 6) x1) 1 = 0 then (some 0) else (some 1)
set_option maxHeartbeats 4000000 in
set_option maxRecDepth 100000 in
theorem mX4_mayUse {w : gW} {n : Nat} {Rm : Nat → Nat → Nat} {g : Nat → Nat} (hLC : gLC g n Rm) {l : Launch} (hl9 : l.stackTraces = false) {a0 : Nat} {x1 : Int} {M : gMem} {r : Int} (hg0 : g a0 = 5) (hr1 : gRI x1) (hf : fX4_mayUse g a0 x1 M = some r) : gMT w n Rm l yX4_mayUse cX4_mayUse 2 (some .boolean) 1 60 0 0 [.ref (w.1 + a0), .int (gi x1)] M (.inr (some (.int (gi r)))) M (r = 0 ∨ r = 1) := by
  unfold fX4_mayUse at hf
  refine gMT.of hl9 (by decide +kernel) ((Nat.le_of_ble_eq_true rfl)) ?_
  intro p e s m below meth c hM hH ls hl
  have hM : gMC w p l s m ([.ref (w.1 + a0), .int (gi x1)] : List Value).toArray meth c cX4_mayUse 2 RX4 (some .boolean) := hM
  have hl : lv_has ls 2 [(0, .ref (w.1 + a0)), (1, .int (gi x1))] := hl
  refine lv_aload_n hM.fx.1 hM.fx.2.1 dX4_mayUse_0 rfl (lv_at hl 0 rfl) ?_
  refine r_getI hM.fx hM.kf hH fl_X4_32 (hLC.in hg0 (by decide)) dX4_mayUse_1 ?_
  have hr_1 := hH.2.2.i (hLC.in hg0 (by decide)).2.2 (by decide : glg 5 6 = false)
  refine lv_iload_n hM.fx.1 hM.fx.2.1 dX4_mayUse_4 rfl (lv_at hl 1 rfl) ?_
  refine r_ishr hM.fx dX4_mayUse_5 ?_
  refine lv_iconst (v := gi (1)) hM.fx.1 hM.fx.2.1 dX4_mayUse_6 rfl ?_
  refine r_iand hM.fx dX4_mayUse_7 ?_
  refine r_if_eq (tgt := 15) hM.fx (gi_r _) dX4_mayUse_8 (by decide) (fun h_2 => ?_) (fun h_2 => ?_)
  · have hf := gpos h_2 hf
    refine lv_iconst (v := gi (0)) hM.fx.1 hM.fx.2.1 dX4_mayUse_15 rfl ?_
    obtain rfl := Option.some.inj hf
    exact r_zret hM hH (Or.inl rfl) (Or.inl rfl) ⟨(Nat.le_of_ble_eq_true rfl), (Nat.le_of_ble_eq_true rfl)⟩ dX4_mayUse_16
  · have hf := gneg' h_2 hf
    refine lv_iconst (v := gi (1)) hM.fx.1 hM.fx.2.1 dX4_mayUse_11 rfl ?_
    refine lv_goto (tgt := 16) hM.fx.1 hM.fx.2.1 dX4_mayUse_12 (by decide) ?_
    obtain rfl := Option.some.inj hf
    exact r_zret hM hH (Or.inr rfl) (Or.inr rfl) ⟨(Nat.le_of_ble_eq_true rfl), (Nat.le_of_ble_eq_true rfl)⟩ dX4_mayUse_16
def fX4_keepSaying_28 (g : Nat → Nat)  (a0 : Nat) (M : gMem) : Option gMem :=
  gst (gup M a0 14 (gwi (M a0 14 + 1))) fun M_2 => some M_2
set_option maxHeartbeats 4000000 in
set_option maxRecDepth 100000 in
theorem wX4_keepSaying_28 {w : gW} {n : Nat} {Rm : Nat → Nat → Nat} {g : Nat → Nat} (hLC : gLC g n Rm) {p : Program} {l : Launch} {e : Env} {s : State} {m : MethodId} {args : Array Value} {below : List Frame} {meth : Method} {c : Code} (hM : gMC w p l s m args meth c cX4_keepSaying 3 RX4 none)  : ∀ (a0 : Nat) (M : gMem) (r : gMem) (hg0 : g a0 = 5) (hf : fX4_keepSaying_28 g a0 M = some r) (H : Heap) (locs : List Loc) (ls : Array Slot) (hH : gH w n Rm M s H locs) (hl : lv_has ls 3 [(0, .ref (w.1 + a0))]), W p l e { frames := 1, cells := 0, slots := 0, locals := 60 } s m args below meth c H locs 0 0 (gQ w n Rm below args s 0 0 (.inr none) r True) (F0 m 28 ls []) := by
  intro a0 M r hg0 hf H locs ls hH hl
  unfold fX4_keepSaying_28 at hf
  refine lv_aload_n hM.fx.1 hM.fx.2.1 dX4_keepSaying_28 rfl (lv_at hl 0 rfl) ?_
  refine lv_dup hM.fx.1 hM.fx.2.1 dX4_keepSaying_29 rfl ?_
  refine r_getI hM.fx hM.kf hH fl_X4_56 (hLC.in hg0 (by decide)) dX4_keepSaying_30 ?_
  have hr_1 := hH.2.2.i (hLC.in hg0 (by decide)).2.2 (by decide : glg 5 14 = false)
  refine lv_iconst (v := gi (1)) hM.fx.1 hM.fx.2.1 dX4_keepSaying_33 rfl ?_
  refine r_iadd hM.fx dX4_keepSaying_34 ?_
  refine r_putI hM.fx hM.kf hH fp_X4_56 (hLC.in hg0 (by decide)) (gwi_r _) dX4_keepSaying_35 (fun H locs hH => ?_)
  obtain ⟨M_2, eM_2, hf⟩ := gst_s hf
  rw [← eM_2] at hH
  obtain rfl := Option.some.inj hf
  exact r_vret hM hH trivial ⟨(Nat.le_of_ble_eq_true rfl), (Nat.le_of_ble_eq_true rfl)⟩ dX4_keepSaying_38
def fX4_keepSaying (g : Nat → Nat) (a0 : Nat) (x1 : Int) (M : gMem) : Option gMem :=
  gst ((M a0 14).tmod 20) fun x_2 => if x_2 < 0 then (fX4_keepSaying_28 g a0 M) else (if 20 ≤ x_2 then (fX4_keepSaying_28 g a0 M) else (if 0 ≤ x_2 ∧ x_2 < 20 then gst (gup M (a0 + 3) x_2.toNat x1) fun M_6 => fX4_keepSaying_28 g a0 M_6 else none))
set_option maxHeartbeats 4000000 in
set_option maxRecDepth 100000 in
theorem mX4_keepSaying {w : gW} {n : Nat} {Rm : Nat → Nat → Nat} {g : Nat → Nat} (hLC : gLC g n Rm) {l : Launch} (hl9 : l.stackTraces = false) {a0 : Nat} {x1 : Int} {M : gMem} {r : gMem} (hg0 : g a0 = 5) (hr1 : gRI x1) (hf : fX4_keepSaying g a0 x1 M = some r) : gMT w n Rm l yX4_keepSaying cX4_keepSaying 3 none 1 60 0 0 [.ref (w.1 + a0), .int (gi x1)] M (.inr none) r True := by
  unfold fX4_keepSaying at hf
  refine gMT.of hl9 (by decide +kernel) ((Nat.le_of_ble_eq_true rfl)) ?_
  intro p e s m below meth c hM hH ls hl
  have hM : gMC w p l s m ([.ref (w.1 + a0), .int (gi x1)] : List Value).toArray meth c cX4_keepSaying 3 RX4 none := hM
  have hl : lv_has ls 3 [(0, .ref (w.1 + a0)), (1, .int (gi x1))] := hl
  refine lv_aload_n hM.fx.1 hM.fx.2.1 dX4_keepSaying_0 rfl (lv_at hl 0 rfl) ?_
  refine r_getI hM.fx hM.kf hH fl_X4_56 (hLC.in hg0 (by decide)) dX4_keepSaying_1 ?_
  have hr_1 := hH.2.2.i (hLC.in hg0 (by decide)).2.2 (by decide : glg 5 14 = false)
  refine lv_bipush (v := gi (20)) hM.fx.1 hM.fx.2.1 dX4_keepSaying_4 (by decide) ?_
  refine r_irem hM.fx hr_1 (gcR (k := 20) (by decide)) (by decide) dX4_keepSaying_6 ?_
  obtain ⟨x_2, ex_2, hf⟩ := gst_s hf
  refine W.eq (g2 := F0 m _ ls (.int (gi x_2) :: _)) (by rw [ex_2]) ?_
  have hx_2 : gRI x_2 := by rw [ex_2]; exact (gtmod_r hr_1)
  refine lv_istore_n (lv' := [(2, .int (gi x_2)), (0, .ref (w.1 + a0)), (1, .int (gi x1))]) hM.fx.1 hM.fx.2.1 dX4_keepSaying_7 rfl hl (by decide) rfl (fun ls hl => ?_)
  refine lv_iload_n hM.fx.1 hM.fx.2.1 dX4_keepSaying_8 rfl (lv_at hl 0 rfl) ?_
  refine r_if_lt (tgt := 28) hM.fx hx_2 dX4_keepSaying_9 (by decide) (fun h_3 => ?_) (fun h_3 => ?_)
  · have hf := gpos h_3 hf
    exact wX4_keepSaying_28 hLC hM   _ _ _ hg0 hf _ _ _ hH (lv_sub hl [1] rfl)
  · have hf := gneg' h_3 hf
    refine lv_iload_n hM.fx.1 hM.fx.2.1 dX4_keepSaying_12 rfl (lv_at hl 0 rfl) ?_
    refine lv_aload_n hM.fx.1 hM.fx.2.1 dX4_keepSaying_13 rfl (lv_at hl 1 rfl) ?_
    refine r_getR hM.fx hM.kf hH hLC fl_X4_18 hg0 gch_5_2 dX4_keepSaying_14 ?_
    refine r_alen hM.fx hM.kf hH 0 rfl (hLC.in (hLC.ch hg0 (by decide) gch_5_2) (by decide)) (⟨by decide, by decide⟩ : gAr 336 0) rfl dX4_keepSaying_17 ?_
    refine r_icmp_ge (tgt := 28) hM.fx hx_2 (gcR (k := 20) (by decide)) dX4_keepSaying_18 (by decide) (fun h_4 => ?_) (fun h_4 => ?_)
    · have hf := gpos h_4 hf
      exact wX4_keepSaying_28 hLC hM   _ _ _ hg0 hf _ _ _ hH (lv_sub hl [1] rfl)
    · have hf := gneg' h_4 hf
      refine lv_aload_n hM.fx.1 hM.fx.2.1 dX4_keepSaying_21 rfl (lv_at hl 1 rfl) ?_
      refine r_getR hM.fx hM.kf hH hLC fl_X4_18 hg0 gch_5_2 dX4_keepSaying_22 ?_
      refine lv_iload_n hM.fx.1 hM.fx.2.1 dX4_keepSaying_25 rfl (lv_at hl 0 rfl) ?_
      refine lv_iload_n hM.fx.1 hM.fx.2.1 dX4_keepSaying_26 rfl (lv_at hl 2 rfl) ?_
      obtain ⟨g_5, hf⟩ := gif hf
      refine r_iast hM.fx hM.kf hH (hLC.in (hLC.ch hg0 (by decide) gch_5_2) (by decide)) (⟨by decide, by decide⟩ : gAr 336 0) hx_2 g_5 hr1 dX4_keepSaying_27 (fun H locs hH => ?_)
      obtain ⟨M_6, eM_6, hf⟩ := gst_s hf
      rw [← eM_6] at hH
      exact wX4_keepSaying_28 hLC hM   _ _ _ hg0 hf _ _ _ hH (lv_sub hl [1] rfl)
def fX4_sayingAt_18 (g : Nat → Nat)  (M : gMem) : Option Int :=
  some (-1000000)
set_option maxHeartbeats 4000000 in
set_option maxRecDepth 100000 in
theorem wX4_sayingAt_18 {w : gW} {n : Nat} {Rm : Nat → Nat → Nat} {g : Nat → Nat} (hLC : gLC g n Rm) {p : Program} {l : Launch} {e : Env} {s : State} {m : MethodId} {args : Array Value} {below : List Frame} {meth : Method} {c : Code} (hM : gMC w p l s m args meth c cX4_sayingAt 3 RX4 (some .int))  : ∀  (M : gMem) (r : Int)  (hf : fX4_sayingAt_18 g M = some r) (H : Heap) (locs : List Loc) (ls : Array Slot) (hH : gH w n Rm M s H locs) (hl : lv_has ls 3 []), W p l e { frames := 1, cells := 0, slots := 0, locals := 60 } s m args below meth c H locs 0 0 (gQ w n Rm below args s 0 0 (.inr (some (.int (gi r)))) M (gRI r)) (F0 m 18 ls []) := by
  intro M r hf H locs ls hH hl
  unfold fX4_sayingAt_18 at hf
  refine r_ldc (x := -1000000) hM.fx gw_1040 (by decide) dX4_sayingAt_18 ?_
  obtain rfl := Option.some.inj hf
  exact r_iret hM hH (gcR (k := -1000000) (by decide)) ⟨(Nat.le_of_ble_eq_true rfl), (Nat.le_of_ble_eq_true rfl)⟩ dX4_sayingAt_20
def fX4_sayingAt_55 (g : Nat → Nat)  (M : gMem) : Option Int :=
  some (-1000000)
set_option maxHeartbeats 4000000 in
set_option maxRecDepth 100000 in
theorem wX4_sayingAt_55 {w : gW} {n : Nat} {Rm : Nat → Nat → Nat} {g : Nat → Nat} (hLC : gLC g n Rm) {p : Program} {l : Launch} {e : Env} {s : State} {m : MethodId} {args : Array Value} {below : List Frame} {meth : Method} {c : Code} (hM : gMC w p l s m args meth c cX4_sayingAt 3 RX4 (some .int))  : ∀  (M : gMem) (r : Int)  (hf : fX4_sayingAt_55 g M = some r) (H : Heap) (locs : List Loc) (ls : Array Slot) (hH : gH w n Rm M s H locs) (hl : lv_has ls 3 []), W p l e { frames := 1, cells := 0, slots := 0, locals := 60 } s m args below meth c H locs 0 0 (gQ w n Rm below args s 0 0 (.inr (some (.int (gi r)))) M (gRI r)) (F0 m 55 ls []) := by
  intro M r hf H locs ls hH hl
  unfold fX4_sayingAt_55 at hf
  refine r_ldc (x := -1000000) hM.fx gw_1040 (by decide) dX4_sayingAt_55 ?_
  obtain rfl := Option.some.inj hf
  exact r_iret hM hH (gcR (k := -1000000) (by decide)) ⟨(Nat.le_of_ble_eq_true rfl), (Nat.le_of_ble_eq_true rfl)⟩ dX4_sayingAt_57
def fX4_sayingAt (g : Nat → Nat) (a0 : Nat) (x1 : Int) (M : gMem) : Option Int :=
  if x1 < 0 then (fX4_sayingAt_18 g M) else (if 20 ≤ x1 then (fX4_sayingAt_18 g M) else (if x1 < M a0 14 then (gst ((gwi (gwi (M a0 14 - 1) - x1)).tmod 20) fun x_6 => if x_6 < 0 then (fX4_sayingAt_55 g M) else (if 20 ≤ x_6 then (fX4_sayingAt_55 g M) else (if 0 ≤ x_6 ∧ x_6 < 20 then some (M (a0 + 3) x_6.toNat) else none))) else (fX4_sayingAt_18 g M)))
set_option maxHeartbeats 4000000 in
set_option maxRecDepth 100000 in
theorem mX4_sayingAt {w : gW} {n : Nat} {Rm : Nat → Nat → Nat} {g : Nat → Nat} (hLC : gLC g n Rm) {l : Launch} (hl9 : l.stackTraces = false) {a0 : Nat} {x1 : Int} {M : gMem} {r : Int} (hg0 : g a0 = 5) (hr1 : gRI x1) (hf : fX4_sayingAt g a0 x1 M = some r) : gMT w n Rm l yX4_sayingAt cX4_sayingAt 3 (some .int) 1 60 0 0 [.ref (w.1 + a0), .int (gi x1)] M (.inr (some (.int (gi r)))) M (gRI r) := by
  unfold fX4_sayingAt at hf
  refine gMT.of hl9 (by decide +kernel) ((Nat.le_of_ble_eq_true rfl)) ?_
  intro p e s m below meth c hM hH ls hl
  have hM : gMC w p l s m ([.ref (w.1 + a0), .int (gi x1)] : List Value).toArray meth c cX4_sayingAt 3 RX4 (some .int) := hM
  have hl : lv_has ls 3 [(0, .ref (w.1 + a0)), (1, .int (gi x1))] := hl
  refine lv_iload_n hM.fx.1 hM.fx.2.1 dX4_sayingAt_0 rfl (lv_at hl 1 rfl) ?_
  refine r_if_lt (tgt := 18) hM.fx hr1 dX4_sayingAt_1 (by decide) (fun h_1 => ?_) (fun h_1 => ?_)
  · have hf := gpos h_1 hf
    exact wX4_sayingAt_18 hLC hM   _ _ hf _ _ _ hH (lv_sub hl [] rfl)
  · have hf := gneg' h_1 hf
    refine lv_iload_n hM.fx.1 hM.fx.2.1 dX4_sayingAt_4 rfl (lv_at hl 1 rfl) ?_
    refine lv_bipush (v := gi (20)) hM.fx.1 hM.fx.2.1 dX4_sayingAt_5 (by decide) ?_
    refine r_icmp_ge (tgt := 18) hM.fx hr1 (gcR (k := 20) (by decide)) dX4_sayingAt_7 (by decide) (fun h_2 => ?_) (fun h_2 => ?_)
    · have hf := gpos h_2 hf
      exact wX4_sayingAt_18 hLC hM   _ _ hf _ _ _ hH (lv_sub hl [] rfl)
    · have hf := gneg' h_2 hf
      refine lv_iload_n hM.fx.1 hM.fx.2.1 dX4_sayingAt_10 rfl (lv_at hl 1 rfl) ?_
      refine lv_aload_n hM.fx.1 hM.fx.2.1 dX4_sayingAt_11 rfl (lv_at hl 0 rfl) ?_
      refine r_getI hM.fx hM.kf hH fl_X4_56 (hLC.in hg0 (by decide)) dX4_sayingAt_12 ?_
      have hr_3 := hH.2.2.i (hLC.in hg0 (by decide)).2.2 (by decide : glg 5 14 = false)
      refine r_icmp_lt (tgt := 21) hM.fx hr1 hr_3 dX4_sayingAt_15 (by decide) (fun h_4 => ?_) (fun h_4 => ?_)
      · have hf := gpos h_4 hf
        refine lv_aload_n hM.fx.1 hM.fx.2.1 dX4_sayingAt_21 rfl (lv_at hl 0 rfl) ?_
        refine r_getI hM.fx hM.kf hH fl_X4_56 (hLC.in hg0 (by decide)) dX4_sayingAt_22 ?_
        have hr_5 := hH.2.2.i (hLC.in hg0 (by decide)).2.2 (by decide : glg 5 14 = false)
        refine lv_iconst (v := gi (1)) hM.fx.1 hM.fx.2.1 dX4_sayingAt_25 rfl ?_
        refine r_isub hM.fx dX4_sayingAt_26 ?_
        refine lv_iload_n hM.fx.1 hM.fx.2.1 dX4_sayingAt_27 rfl (lv_at hl 1 rfl) ?_
        refine r_isub hM.fx dX4_sayingAt_28 ?_
        refine lv_bipush (v := gi (20)) hM.fx.1 hM.fx.2.1 dX4_sayingAt_29 (by decide) ?_
        refine r_irem hM.fx (gwi_r _) (gcR (k := 20) (by decide)) (by decide) dX4_sayingAt_31 ?_
        obtain ⟨x_6, ex_6, hf⟩ := gst_s hf
        refine W.eq (g2 := F0 m _ ls (.int (gi x_6) :: _)) (by rw [ex_6]) ?_
        have hx_6 : gRI x_6 := by rw [ex_6]; exact (gtmod_r (gwi_r _))
        refine lv_istore_n (lv' := [(2, .int (gi x_6)), (0, .ref (w.1 + a0)), (1, .int (gi x1))]) hM.fx.1 hM.fx.2.1 dX4_sayingAt_32 rfl hl (by decide) rfl (fun ls hl => ?_)
        refine lv_iload_n hM.fx.1 hM.fx.2.1 dX4_sayingAt_33 rfl (lv_at hl 0 rfl) ?_
        refine r_if_lt (tgt := 55) hM.fx hx_6 dX4_sayingAt_34 (by decide) (fun h_7 => ?_) (fun h_7 => ?_)
        · have hf := gpos h_7 hf
          exact wX4_sayingAt_55 hLC hM   _ _ hf _ _ _ hH (lv_sub hl [] rfl)
        · have hf := gneg' h_7 hf
          refine lv_iload_n hM.fx.1 hM.fx.2.1 dX4_sayingAt_37 rfl (lv_at hl 0 rfl) ?_
          refine lv_aload_n hM.fx.1 hM.fx.2.1 dX4_sayingAt_38 rfl (lv_at hl 1 rfl) ?_
          refine r_getR hM.fx hM.kf hH hLC fl_X4_18 hg0 gch_5_2 dX4_sayingAt_39 ?_
          refine r_alen hM.fx hM.kf hH 0 rfl (hLC.in (hLC.ch hg0 (by decide) gch_5_2) (by decide)) (⟨by decide, by decide⟩ : gAr 336 0) rfl dX4_sayingAt_42 ?_
          refine r_icmp_ge (tgt := 55) hM.fx hx_6 (gcR (k := 20) (by decide)) dX4_sayingAt_43 (by decide) (fun h_8 => ?_) (fun h_8 => ?_)
          · have hf := gpos h_8 hf
            exact wX4_sayingAt_55 hLC hM   _ _ hf _ _ _ hH (lv_sub hl [] rfl)
          · have hf := gneg' h_8 hf
            refine lv_aload_n hM.fx.1 hM.fx.2.1 dX4_sayingAt_46 rfl (lv_at hl 1 rfl) ?_
            refine r_getR hM.fx hM.kf hH hLC fl_X4_18 hg0 gch_5_2 dX4_sayingAt_47 ?_
            refine lv_iload_n hM.fx.1 hM.fx.2.1 dX4_sayingAt_50 rfl (lv_at hl 0 rfl) ?_
            obtain ⟨g_9, hf⟩ := gif hf
            refine r_iald hM.fx hM.kf hH (hLC.in (hLC.ch hg0 (by decide) gch_5_2) (by decide)) (⟨by decide, by decide⟩ : gAr 336 0) hx_6 g_9 dX4_sayingAt_51 ?_
            have hr_10 := hH.2.2.i (k := x_6.toNat) (hLC.in (hLC.ch hg0 (by decide) gch_5_2) (by decide)).2.2 (glg_a (⟨by decide, by decide⟩ : gAr 336 0))
            refine lv_goto (tgt := 57) hM.fx.1 hM.fx.2.1 dX4_sayingAt_52 (by decide) ?_
            obtain rfl := Option.some.inj hf
            exact r_iret hM hH hr_10 ⟨(Nat.le_of_ble_eq_true rfl), (Nat.le_of_ble_eq_true rfl)⟩ dX4_sayingAt_57
      · have hf := gneg' h_4 hf
        exact wX4_sayingAt_18 hLC hM   _ _ hf _ _ _ hH (lv_sub hl [] rfl)
def fX6_isMove (g : Nat → Nat) (x0 : Int) : Option Int :=
  if x0 = 8 then (some 1) else (if x0 = 9 then (some 1) else (if x0 = 10 then (some 1) else (some 0)))
set_option maxHeartbeats 4000000 in
set_option maxRecDepth 100000 in
theorem mX6_isMove {w : gW} {n : Nat} {Rm : Nat → Nat → Nat} {g : Nat → Nat} (hLC : gLC g n Rm) {l : Launch} (hl9 : l.stackTraces = false) {x0 : Int} {M : gMem} {r : Int} (hr0 : gRI x0) (hf : fX6_isMove g x0 = some r) : gMT w n Rm l yX6_isMove cX6_isMove 1 (some .boolean) 1 60 0 0 [.int (gi x0)] M (.inr (some (.int (gi r)))) M (r = 0 ∨ r = 1) := by
  unfold fX6_isMove at hf
  refine gMT.of hl9 (by decide +kernel) ((Nat.le_of_ble_eq_true rfl)) ?_
  intro p e s m below meth c hM hH ls hl
  have hM : gMC w p l s m ([.int (gi x0)] : List Value).toArray meth c cX6_isMove 1 RX6 (some .boolean) := hM
  have hl : lv_has ls 1 [(0, .int (gi x0))] := hl
  refine lv_iload_n hM.fx.1 hM.fx.2.1 dX6_isMove_0 rfl (lv_at hl 0 rfl) ?_
  refine lv_bipush (v := gi (8)) hM.fx.1 hM.fx.2.1 dX6_isMove_1 (by decide) ?_
  refine r_icmp_eq (tgt := 18) hM.fx hr0 (gcR (k := 8) (by decide)) dX6_isMove_3 (by decide) (fun h_1 => ?_) (fun h_1 => ?_)
  · have hf := gpos h_1 hf
    refine lv_iconst (v := gi (1)) hM.fx.1 hM.fx.2.1 dX6_isMove_18 rfl ?_
    refine lv_goto (tgt := 23) hM.fx.1 hM.fx.2.1 dX6_isMove_19 (by decide) ?_
    obtain rfl := Option.some.inj hf
    exact r_zret hM hH (Or.inr rfl) (Or.inr rfl) ⟨(Nat.le_of_ble_eq_true rfl), (Nat.le_of_ble_eq_true rfl)⟩ dX6_isMove_23
  · have hf := gneg' h_1 hf
    refine lv_iload_n hM.fx.1 hM.fx.2.1 dX6_isMove_6 rfl (lv_at hl 0 rfl) ?_
    refine lv_bipush (v := gi (9)) hM.fx.1 hM.fx.2.1 dX6_isMove_7 (by decide) ?_
    refine r_icmp_eq (tgt := 18) hM.fx hr0 (gcR (k := 9) (by decide)) dX6_isMove_9 (by decide) (fun h_2 => ?_) (fun h_2 => ?_)
    · have hf := gpos h_2 hf
      refine lv_iconst (v := gi (1)) hM.fx.1 hM.fx.2.1 dX6_isMove_18 rfl ?_
      refine lv_goto (tgt := 23) hM.fx.1 hM.fx.2.1 dX6_isMove_19 (by decide) ?_
      obtain rfl := Option.some.inj hf
      exact r_zret hM hH (Or.inr rfl) (Or.inr rfl) ⟨(Nat.le_of_ble_eq_true rfl), (Nat.le_of_ble_eq_true rfl)⟩ dX6_isMove_23
    · have hf := gneg' h_2 hf
      refine lv_iload_n hM.fx.1 hM.fx.2.1 dX6_isMove_12 rfl (lv_at hl 0 rfl) ?_
      refine lv_bipush (v := gi (10)) hM.fx.1 hM.fx.2.1 dX6_isMove_13 (by decide) ?_
      refine r_icmp_ne (tgt := 22) hM.fx hr0 (gcR (k := 10) (by decide)) dX6_isMove_15 (by decide) (fun h_3 => ?_) (fun h_3 => ?_)
      · have hf := gneg' h_3 hf
        refine lv_iconst (v := gi (0)) hM.fx.1 hM.fx.2.1 dX6_isMove_22 rfl ?_
        obtain rfl := Option.some.inj hf
        exact r_zret hM hH (Or.inl rfl) (Or.inl rfl) ⟨(Nat.le_of_ble_eq_true rfl), (Nat.le_of_ble_eq_true rfl)⟩ dX6_isMove_23
      · have hf := gpos h_3 hf
        refine lv_iconst (v := gi (1)) hM.fx.1 hM.fx.2.1 dX6_isMove_18 rfl ?_
        refine lv_goto (tgt := 23) hM.fx.1 hM.fx.2.1 dX6_isMove_19 (by decide) ?_
        obtain rfl := Option.some.inj hf
        exact r_zret hM hH (Or.inr rfl) (Or.inr rfl) ⟨(Nat.le_of_ble_eq_true rfl), (Nat.le_of_ble_eq_true rfl)⟩ dX6_isMove_23
def fX8_existingProc (g : Nat → Nat) (a0 : Nat) (x1 : Int) (M : gMem) : Option (Nat ⊕ Nat) :=
  (fX0_procAt g (a0 + 1) x1 M).bind fun a_2 => if a_2 = 0 then (some (.inl 3)) else (some (.inr a_2))
set_option maxHeartbeats 4000000 in
set_option maxRecDepth 100000 in
theorem mX8_existingProc {w : gW} {n : Nat} {Rm : Nat → Nat → Nat} {g : Nat → Nat} (hLC : gLC g n Rm) {l : Launch} (hl9 : l.stackTraces = false) {a0 : Nat} {x1 : Int} {M : gMem} {r : (Nat ⊕ Nat)} (hg0 : g a0 = 8) (hr1 : gRI x1) (hf : fX8_existingProc g a0 x1 M = some r) : gMT w n Rm l yX8_existingProc cX8_existingProc 3 (some (.object "StackDesk$Proc")) 6 100 1 6 [.ref (w.1 + a0), .int (gi x1)] M (gOcT (fun z => some (.ref (w.1 + z))) r) M (∀ z, r = .inr z → (g z = 5)) := by
  unfold fX8_existingProc at hf
  refine gMT.of hl9 (by decide +kernel) ((Nat.le_of_ble_eq_true rfl)) ?_
  intro p e s m below meth c hM hH ls hl
  have hM : gMC w p l s m ([.ref (w.1 + a0), .int (gi x1)] : List Value).toArray meth c cX8_existingProc 3 RX8 (some (.object "StackDesk$Proc")) := hM
  have hl : lv_has ls 3 [(0, .ref (w.1 + a0)), (1, .int (gi x1))] := hl
  refine lv_aload_n hM.fx.1 hM.fx.2.1 dX8_existingProc_0 rfl (lv_at hl 0 rfl) ?_
  refine r_getR hM.fx hM.kf hH hLC fl_X8_10 hg0 gch_8_0 dX8_existingProc_1 ?_
  refine lv_iload_n hM.fx.1 hM.fx.2.1 dX8_existingProc_4 rfl (lv_at hl 1 rfl) ?_
  obtain ⟨a_2, ea_2, hf⟩ := gbd hf
  refine r_go1 hH rfl (r_runV (As := [.int (gi x1)]) hM hH cv_X8_238 (mX0_procAt hLC hM.ns (hLC.ch hg0 (by decide) gch_8_0) hr1 ea_2) (hLC.in (hLC.ch hg0 (by decide) gch_8_0) (by decide)) (by decide) rfl rfl rfl hl.1 rfl (Nat.le_of_ble_eq_true rfl) ⟨(Nat.le_of_ble_eq_true rfl), (Nat.le_of_ble_eq_true rfl)⟩ ⟨(Nat.le_of_ble_eq_true rfl), (Nat.le_of_ble_eq_true rfl)⟩ dX8_existingProc_5) (fun hp_1 H locs hH => ?_)
  refine r_astore_nV (lv' := [(2, gvR w a_2), (0, .ref (w.1 + a0)), (1, .int (gi x1))]) hM.fx dX8_existingProc_8 rfl hl (by decide) rfl (fun ls hl => ?_)
  refine r_aload_nV hM.fx dX8_existingProc_9 rfl (lv_at hl 0 rfl) ?_
  refine r_ifnonnull (tgt := 24) hM.fx dX8_existingProc_10 (by decide) (fun h_3 => ?_) (fun h_3 => ?_)
  · have hf := gneg' h_3 hf
    rw [gvR_nn h_3] at hl
    refine lv_aload_n hM.fx.1 hM.fx.2.1 dX8_existingProc_24 rfl (lv_at hl 0 rfl) ?_
    obtain rfl := Option.some.inj hf
    exact r_aretV hM hH (Or.inr ⟨_, rfl⟩) (fun z hz => by cases hz; exact (hp_1 h_3)) ⟨(Nat.le_of_ble_eq_true rfl), (Nat.le_of_ble_eq_true rfl)⟩ dX8_existingProc_25
  · have hf := gpos h_3 hf
    obtain rfl := Option.some.inj hf
    exact r_throwW (i := 23) (text := "no such process") hM hH th_X8_209_213 rfl hl.1 dX8_existingProc_13 dX8_existingProc_16 dX8_existingProc_17 dX8_existingProc_20 dX8_existingProc_23 ⟨(Nat.le_of_ble_eq_true rfl), (Nat.le_of_ble_eq_true rfl), (Nat.le_of_ble_eq_true rfl), (Nat.le_of_ble_eq_true rfl)⟩ ⟨(Nat.le_of_ble_eq_true rfl), (Nat.le_of_ble_eq_true rfl)⟩
def fX8_process (g : Nat → Nat) (a0 : Nat) (x1 : Int) (x2 : Int) (M : gMem) : Option (Nat ⊕ Int) :=
  gtry (fX8_existingProc g a0 x1 M) (fun e_2 => some (.inl e_2)) fun a_3 => if x2 = 0 then (some (.inr (M a_3 8))) else (if x2 = 1 then (some (.inr (M a_3 9))) else (if x2 = 2 then (some (.inr (M a_3 7))) else (if x2 = 3 then (some (.inr (M a_3 10))) else (if x2 = 4 then (some (.inr (M a_3 4))) else (if x2 = 5 then (some (.inr (M a_3 5))) else (if x2 = 6 then (some (.inr (M a_3 6))) else (if x2 = 7 then (some (.inr (M a_3 11))) else (if x2 = 8 then (some (.inr (M a_3 12))) else (if x2 = 9 then (some (.inr (M a_3 13))) else (if x2 = 10 then (some (.inr (M a_3 14))) else (some (.inl 2))))))))))))
set_option maxHeartbeats 4000000 in
set_option maxRecDepth 100000 in
theorem mX8_process {w : gW} {n : Nat} {Rm : Nat → Nat → Nat} {g : Nat → Nat} (hLC : gLC g n Rm) {l : Launch} (hl9 : l.stackTraces = false) {a0 : Nat} {x1 : Int} {x2 : Int} {M : gMem} {r : (Nat ⊕ Int)} (hg0 : g a0 = 8) (hr1 : gRI x1) (hr2 : gRI x2) (hf : fX8_process g a0 x1 x2 M = some r) : gMT w n Rm l yX8_process cX8_process 4 (some .int) 7 122 2 12 [.ref (w.1 + a0), .int (gi x1), .int (gi x2)] M (gOcT (fun z => some (.int (gi z))) r) M (∀ z, r = .inr z → (gRI z)) := by
  unfold fX8_process at hf
  refine gMT.of hl9 (by decide +kernel) ((Nat.le_of_ble_eq_true rfl)) ?_
  intro p e s m below meth c hM hH ls hl
  have hM : gMC w p l s m ([.ref (w.1 + a0), .int (gi x1), .int (gi x2)] : List Value).toArray meth c cX8_process 4 RX8 (some .int) := hM
  have hl : lv_has ls 4 [(0, .ref (w.1 + a0)), (1, .int (gi x1)), (2, .int (gi x2))] := hl
  refine lv_aload_n hM.fx.1 hM.fx.2.1 dX8_process_0 rfl (lv_at hl 0 rfl) ?_
  refine lv_iload_n hM.fx.1 hM.fx.2.1 dX8_process_1 rfl (lv_at hl 1 rfl) ?_
  rcases gtry_s hf with ⟨e_2, qe_2, hf⟩ | ⟨a_3, qa_3, hf⟩
  · obtain rfl := Option.some.inj hf
    exact r_goX hM hH rfl (r_runV (As := [.int (gi x1)]) hM hH cv_X8_136 (mX8_existingProc hLC hM.ns hg0 hr1 qe_2) (hLC.in hg0 (by decide)) (by decide) rfl rfl rfl hl.1 rfl (Nat.le_of_ble_eq_true rfl) ⟨(Nat.le_of_ble_eq_true rfl), (Nat.le_of_ble_eq_true rfl)⟩ ⟨(Nat.le_of_ble_eq_true rfl), (Nat.le_of_ble_eq_true rfl)⟩ dX8_process_2) ⟨(Nat.le_of_ble_eq_true rfl), (Nat.le_of_ble_eq_true rfl)⟩
  refine r_go1 hH rfl (r_runV (As := [.int (gi x1)]) hM hH cv_X8_136 (mX8_existingProc hLC hM.ns hg0 hr1 qa_3) (hLC.in hg0 (by decide)) (by decide) rfl rfl rfl hl.1 rfl (Nat.le_of_ble_eq_true rfl) ⟨(Nat.le_of_ble_eq_true rfl), (Nat.le_of_ble_eq_true rfl)⟩ ⟨(Nat.le_of_ble_eq_true rfl), (Nat.le_of_ble_eq_true rfl)⟩ dX8_process_2) (fun hp_1 H locs hH => ?_)
  refine lv_astore_n (lv' := [(3, .ref (w.1 + a_3)), (0, .ref (w.1 + a0)), (1, .int (gi x1)), (2, .int (gi x2))]) hM.fx.1 hM.fx.2.1 dX8_process_5 rfl hl (by decide) rfl (fun ls hl => ?_)
  refine lv_iload_n hM.fx.1 hM.fx.2.1 dX8_process_6 rfl (lv_at hl 3 rfl) ?_
  by_cases h_4 : x2 = 0
  · refine r_tsIn (tgt := 64) hM.fx hr2 0 dX8_process_7 h_4 (by decide) rfl (by decide) ?_
    have hf := gpos h_4 hf
    refine lv_aload_n hM.fx.1 hM.fx.2.1 dX8_process_64 rfl (lv_at hl 0 rfl) ?_
    refine r_getI hM.fx hM.kf hH fl_X8_140 (hLC.in (hp_1 _ rfl) (by decide)) dX8_process_65 ?_
    have hr_5 := hH.2.2.i (hLC.in (hp_1 _ rfl) (by decide)).2.2 (by decide : glg 5 8 = false)
    obtain rfl := Option.some.inj hf
    exact r_iret hM hH (fun z hz => by cases hz; exact hr_5) ⟨(Nat.le_of_ble_eq_true rfl), (Nat.le_of_ble_eq_true rfl)⟩ dX8_process_68
  · have hf := gneg' h_4 hf
    by_cases h_6 : x2 = 1
    · refine r_tsIn (tgt := 69) hM.fx hr2 1 dX8_process_7 h_6 (by decide) rfl (by decide) ?_
      have hf := gpos h_6 hf
      refine lv_aload_n hM.fx.1 hM.fx.2.1 dX8_process_69 rfl (lv_at hl 0 rfl) ?_
      refine r_getI hM.fx hM.kf hH fl_X8_145 (hLC.in (hp_1 _ rfl) (by decide)) dX8_process_70 ?_
      have hr_7 := hH.2.2.i (hLC.in (hp_1 _ rfl) (by decide)).2.2 (by decide : glg 5 9 = false)
      obtain rfl := Option.some.inj hf
      exact r_iret hM hH (fun z hz => by cases hz; exact hr_7) ⟨(Nat.le_of_ble_eq_true rfl), (Nat.le_of_ble_eq_true rfl)⟩ dX8_process_73
    · have hf := gneg' h_6 hf
      by_cases h_8 : x2 = 2
      · refine r_tsIn (tgt := 74) hM.fx hr2 2 dX8_process_7 h_8 (by decide) rfl (by decide) ?_
        have hf := gpos h_8 hf
        refine lv_aload_n hM.fx.1 hM.fx.2.1 dX8_process_74 rfl (lv_at hl 0 rfl) ?_
        refine r_getI hM.fx hM.kf hH fl_X8_148 (hLC.in (hp_1 _ rfl) (by decide)) dX8_process_75 ?_
        have hr_9 := hH.2.2.i (hLC.in (hp_1 _ rfl) (by decide)).2.2 (by decide : glg 5 7 = false)
        obtain rfl := Option.some.inj hf
        exact r_iret hM hH (fun z hz => by cases hz; exact hr_9) ⟨(Nat.le_of_ble_eq_true rfl), (Nat.le_of_ble_eq_true rfl)⟩ dX8_process_78
      · have hf := gneg' h_8 hf
        by_cases h_10 : x2 = 3
        · refine r_tsIn (tgt := 79) hM.fx hr2 3 dX8_process_7 h_10 (by decide) rfl (by decide) ?_
          have hf := gpos h_10 hf
          refine lv_aload_n hM.fx.1 hM.fx.2.1 dX8_process_79 rfl (lv_at hl 0 rfl) ?_
          refine r_getI hM.fx hM.kf hH fl_X8_151 (hLC.in (hp_1 _ rfl) (by decide)) dX8_process_80 ?_
          have hr_11 := hH.2.2.i (hLC.in (hp_1 _ rfl) (by decide)).2.2 (by decide : glg 5 10 = false)
          obtain rfl := Option.some.inj hf
          exact r_iret hM hH (fun z hz => by cases hz; exact hr_11) ⟨(Nat.le_of_ble_eq_true rfl), (Nat.le_of_ble_eq_true rfl)⟩ dX8_process_83
        · have hf := gneg' h_10 hf
          by_cases h_12 : x2 = 4
          · refine r_tsIn (tgt := 84) hM.fx hr2 4 dX8_process_7 h_12 (by decide) rfl (by decide) ?_
            have hf := gpos h_12 hf
            refine lv_aload_n hM.fx.1 hM.fx.2.1 dX8_process_84 rfl (lv_at hl 0 rfl) ?_
            refine r_getI hM.fx hM.kf hH fl_X8_154 (hLC.in (hp_1 _ rfl) (by decide)) dX8_process_85 ?_
            have hr_13 := hH.2.2.i (hLC.in (hp_1 _ rfl) (by decide)).2.2 (by decide : glg 5 4 = false)
            obtain rfl := Option.some.inj hf
            exact r_iret hM hH (fun z hz => by cases hz; exact hr_13) ⟨(Nat.le_of_ble_eq_true rfl), (Nat.le_of_ble_eq_true rfl)⟩ dX8_process_88
          · have hf := gneg' h_12 hf
            by_cases h_14 : x2 = 5
            · refine r_tsIn (tgt := 89) hM.fx hr2 5 dX8_process_7 h_14 (by decide) rfl (by decide) ?_
              have hf := gpos h_14 hf
              refine lv_aload_n hM.fx.1 hM.fx.2.1 dX8_process_89 rfl (lv_at hl 0 rfl) ?_
              refine r_getI hM.fx hM.kf hH fl_X8_157 (hLC.in (hp_1 _ rfl) (by decide)) dX8_process_90 ?_
              have hr_15 := hH.2.2.i (hLC.in (hp_1 _ rfl) (by decide)).2.2 (by decide : glg 5 5 = false)
              obtain rfl := Option.some.inj hf
              exact r_iret hM hH (fun z hz => by cases hz; exact hr_15) ⟨(Nat.le_of_ble_eq_true rfl), (Nat.le_of_ble_eq_true rfl)⟩ dX8_process_93
            · have hf := gneg' h_14 hf
              by_cases h_16 : x2 = 6
              · refine r_tsIn (tgt := 94) hM.fx hr2 6 dX8_process_7 h_16 (by decide) rfl (by decide) ?_
                have hf := gpos h_16 hf
                refine lv_aload_n hM.fx.1 hM.fx.2.1 dX8_process_94 rfl (lv_at hl 0 rfl) ?_
                refine r_getI hM.fx hM.kf hH fl_X8_160 (hLC.in (hp_1 _ rfl) (by decide)) dX8_process_95 ?_
                have hr_17 := hH.2.2.i (hLC.in (hp_1 _ rfl) (by decide)).2.2 (by decide : glg 5 6 = false)
                obtain rfl := Option.some.inj hf
                exact r_iret hM hH (fun z hz => by cases hz; exact hr_17) ⟨(Nat.le_of_ble_eq_true rfl), (Nat.le_of_ble_eq_true rfl)⟩ dX8_process_98
              · have hf := gneg' h_16 hf
                by_cases h_18 : x2 = 7
                · refine r_tsIn (tgt := 99) hM.fx hr2 7 dX8_process_7 h_18 (by decide) rfl (by decide) ?_
                  have hf := gpos h_18 hf
                  refine lv_aload_n hM.fx.1 hM.fx.2.1 dX8_process_99 rfl (lv_at hl 0 rfl) ?_
                  refine r_getI hM.fx hM.kf hH fl_X8_163 (hLC.in (hp_1 _ rfl) (by decide)) dX8_process_100 ?_
                  have hr_19 := hH.2.2.i (hLC.in (hp_1 _ rfl) (by decide)).2.2 (by decide : glg 5 11 = false)
                  obtain rfl := Option.some.inj hf
                  exact r_iret hM hH (fun z hz => by cases hz; exact hr_19) ⟨(Nat.le_of_ble_eq_true rfl), (Nat.le_of_ble_eq_true rfl)⟩ dX8_process_103
                · have hf := gneg' h_18 hf
                  by_cases h_20 : x2 = 8
                  · refine r_tsIn (tgt := 104) hM.fx hr2 8 dX8_process_7 h_20 (by decide) rfl (by decide) ?_
                    have hf := gpos h_20 hf
                    refine lv_aload_n hM.fx.1 hM.fx.2.1 dX8_process_104 rfl (lv_at hl 0 rfl) ?_
                    refine r_getI hM.fx hM.kf hH fl_X8_164 (hLC.in (hp_1 _ rfl) (by decide)) dX8_process_105 ?_
                    have hr_21 := hH.2.2.i (hLC.in (hp_1 _ rfl) (by decide)).2.2 (by decide : glg 5 12 = false)
                    obtain rfl := Option.some.inj hf
                    exact r_iret hM hH (fun z hz => by cases hz; exact hr_21) ⟨(Nat.le_of_ble_eq_true rfl), (Nat.le_of_ble_eq_true rfl)⟩ dX8_process_108
                  · have hf := gneg' h_20 hf
                    by_cases h_22 : x2 = 9
                    · refine r_tsIn (tgt := 109) hM.fx hr2 9 dX8_process_7 h_22 (by decide) rfl (by decide) ?_
                      have hf := gpos h_22 hf
                      refine lv_aload_n hM.fx.1 hM.fx.2.1 dX8_process_109 rfl (lv_at hl 0 rfl) ?_
                      refine r_getI hM.fx hM.kf hH fl_X8_167 (hLC.in (hp_1 _ rfl) (by decide)) dX8_process_110 ?_
                      have hr_23 := hH.2.2.i (hLC.in (hp_1 _ rfl) (by decide)).2.2 (by decide : glg 5 13 = false)
                      obtain rfl := Option.some.inj hf
                      exact r_iret hM hH (fun z hz => by cases hz; exact hr_23) ⟨(Nat.le_of_ble_eq_true rfl), (Nat.le_of_ble_eq_true rfl)⟩ dX8_process_113
                    · have hf := gneg' h_22 hf
                      by_cases h_24 : x2 = 10
                      · refine r_tsIn (tgt := 114) hM.fx hr2 10 dX8_process_7 h_24 (by decide) rfl (by decide) ?_
                        have hf := gpos h_24 hf
                        refine lv_aload_n hM.fx.1 hM.fx.2.1 dX8_process_114 rfl (lv_at hl 0 rfl) ?_
                        refine r_getI hM.fx hM.kf hH fl_X8_170 (hLC.in (hp_1 _ rfl) (by decide)) dX8_process_115 ?_
                        have hr_25 := hH.2.2.i (hLC.in (hp_1 _ rfl) (by decide)).2.2 (by decide : glg 5 14 = false)
                        obtain rfl := Option.some.inj hf
                        exact r_iret hM hH (fun z hz => by cases hz; exact hr_25) ⟨(Nat.le_of_ble_eq_true rfl), (Nat.le_of_ble_eq_true rfl)⟩ dX8_process_118
                      · have hf := gneg' h_24 hf
                        refine r_tsOut (tgt := 119) hM.fx hr2 dX8_process_7 (by omega) (by decide) ?_
                        obtain rfl := Option.some.inj hf
                        exact r_throw (i := 24) (text := "no such number of a process") hM hH th_X8_131_135 rfl hl.1 dX8_process_119 dX8_process_122 dX8_process_123 dX8_process_125 dX8_process_128 ⟨(Nat.le_of_ble_eq_true rfl), (Nat.le_of_ble_eq_true rfl), (Nat.le_of_ble_eq_true rfl), (Nat.le_of_ble_eq_true rfl)⟩ ⟨(Nat.le_of_ble_eq_true rfl), (Nat.le_of_ble_eq_true rfl)⟩
