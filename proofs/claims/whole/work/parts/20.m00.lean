def fX0_begin_2 (g : Nat → Nat)  : Nat → Nat → Int → Int → gMem → Option gMem
  | 0, _, _, _, _ => none
  | fu + 1, a0, x1, x2, M => if 4 ≤ x2 then (gst (gup M (a0 + 4) 4 0) fun M_2 => gst (gup M_2 a0 4 x1) fun M_3 => gst (gup M_3 a0 5 0) fun M_4 => gst (gup M_4 a0 6 0) fun M_5 => gst (gup M_5 a0 7 0) fun M_6 => gst (gup M_6 a0 8 ((-1))) fun M_7 => some M_7) else (if (0 : Int) ≤ x2 ∧ (x2 : Int) < 4 then gst (gup M (a0 + 3) x2.toNat ((-1))) fun M_9 => gst (gwi (x2 + 1)) fun x_10 => fX0_begin_2 g fu a0 x1 x_10 M_9 else none)
set_option maxHeartbeats 4000000 in
set_option maxRecDepth 100000 in
theorem wX0_begin_2 {w : gW} {n : Nat} {Rm : Nat → Nat → Nat} {g : Nat → Nat} (hLC : gLC g n Rm) {p : Program} {l : Launch} {e : Env} {s : State} {m : MethodId} {args : Array Value} {below : List Frame} {meth : Method} {c : Code} (hM : gMC w p l s m args meth c cX0_begin 3 RX0 none)  : ∀ (fu : Nat), ∀ (a0 : Nat) (x1 : Int) (x2 : Int) (M : gMem) (r : gMem) (hg0 : g a0 = 1) (hr1 : gRI x1) (hr2 : gRI x2) (hf : fX0_begin_2 g fu a0 x1 x2 M = some r) (H : Heap) (locs : List Loc) (ls : Array Slot) (hH : gH w n Rm M s H locs) (hl : lv_has ls 3 [(0, .ref (w.1 + a0)), (1, .int (gi x1)), (2, .int (gi x2))]), W p l e { frames := 1, cells := 0, slots := 0, locals := 60 } s m args below meth c H locs 0 0 (gQ w n Rm below args s 0 0 (.inr none) r True) (F0 m 2 ls []) := by
  intro fu
  induction fu with
  | zero =>
    intro a0 x1 x2 M r hg0 hr1 hr2 hf H locs ls hH hl
    exact absurd hf (by simp [fX0_begin_2])
  | succ fu ih =>
    intro a0 x1 x2 M r hg0 hr1 hr2 hf H locs ls hH hl
    unfold fX0_begin_2 at hf
    refine lv_iload_n hM.fx.1 hM.fx.2.1 dX0_begin_2 rfl (lv_at hl 2 rfl) ?_
    refine lv_aload_n hM.fx.1 hM.fx.2.1 dX0_begin_3 rfl (lv_at hl 0 rfl) ?_
    refine r_getR hM.fx hM.kf hH hLC fl_X0_23 hg0 gch_1_2 dX0_begin_4 ?_
    refine r_alen hM.fx hM.kf hH 0 rfl (hLC.in (hLC.ch hg0 (by decide) gch_1_2) (by decide)) (⟨by decide, by decide⟩ : gAr 80 0) rfl dX0_begin_7 ?_
    refine r_icmp_ge (tgt := 24) hM.fx hr2 (gcR (k := 4) (by decide)) dX0_begin_8 (by decide) (fun h_1 => ?_) (fun h_1 => ?_)
    · have hf := gpos h_1 hf
      refine lv_aload_n hM.fx.1 hM.fx.2.1 dX0_begin_24 rfl (lv_at hl 0 rfl) ?_
      refine r_getR hM.fx hM.kf hH hLC fl_X0_30 hg0 gch_1_3 dX0_begin_25 ?_
      refine lv_iconst (v := gi (0)) hM.fx.1 hM.fx.2.1 dX0_begin_28 rfl ?_
      refine r_putI hM.fx hM.kf hH fp_X0_36 (hLC.in (hLC.ch hg0 (by decide) gch_1_3) (by decide)) (gcR (k := 0) (by decide)) dX0_begin_29 (fun H locs hH => ?_)
      obtain ⟨M_2, eM_2, hf⟩ := gst_s hf
      rw [← eM_2] at hH
      refine lv_aload_n hM.fx.1 hM.fx.2.1 dX0_begin_32 rfl (lv_at hl 0 rfl) ?_
      refine lv_iload_n hM.fx.1 hM.fx.2.1 dX0_begin_33 rfl (lv_at hl 1 rfl) ?_
      refine r_putI hM.fx hM.kf hH fp_X0_40 (hLC.in hg0 (by decide)) hr1 dX0_begin_34 (fun H locs hH => ?_)
      obtain ⟨M_3, eM_3, hf⟩ := gst_s hf
      rw [← eM_3] at hH
      refine lv_aload_n hM.fx.1 hM.fx.2.1 dX0_begin_37 rfl (lv_at hl 0 rfl) ?_
      refine lv_iconst (v := gi (0)) hM.fx.1 hM.fx.2.1 dX0_begin_38 rfl ?_
      refine r_putI hM.fx hM.kf hH fp_X0_43 (hLC.in hg0 (by decide)) (gcR (k := 0) (by decide)) dX0_begin_39 (fun H locs hH => ?_)
      obtain ⟨M_4, eM_4, hf⟩ := gst_s hf
      rw [← eM_4] at hH
      refine lv_aload_n hM.fx.1 hM.fx.2.1 dX0_begin_42 rfl (lv_at hl 0 rfl) ?_
      refine lv_iconst (v := gi (0)) hM.fx.1 hM.fx.2.1 dX0_begin_43 rfl ?_
      refine r_putI hM.fx hM.kf hH fp_X0_46 (hLC.in hg0 (by decide)) (gcR (k := 0) (by decide)) dX0_begin_44 (fun H locs hH => ?_)
      obtain ⟨M_5, eM_5, hf⟩ := gst_s hf
      rw [← eM_5] at hH
      refine lv_aload_n hM.fx.1 hM.fx.2.1 dX0_begin_47 rfl (lv_at hl 0 rfl) ?_
      refine lv_iconst (v := gi (0)) hM.fx.1 hM.fx.2.1 dX0_begin_48 rfl ?_
      refine r_putI hM.fx hM.kf hH fp_X0_49 (hLC.in hg0 (by decide)) (gcR (k := 0) (by decide)) dX0_begin_49 (fun H locs hH => ?_)
      obtain ⟨M_6, eM_6, hf⟩ := gst_s hf
      rw [← eM_6] at hH
      refine lv_aload_n hM.fx.1 hM.fx.2.1 dX0_begin_52 rfl (lv_at hl 0 rfl) ?_
      refine lv_iconst (v := gi (-1)) hM.fx.1 hM.fx.2.1 dX0_begin_53 rfl ?_
      refine r_putI hM.fx hM.kf hH fp_X0_52 (hLC.in hg0 (by decide)) (gcR (k := -1) (by decide)) dX0_begin_54 (fun H locs hH => ?_)
      obtain ⟨M_7, eM_7, hf⟩ := gst_s hf
      rw [← eM_7] at hH
      obtain rfl := Option.some.inj hf
      exact r_vret hM hH trivial ⟨(Nat.le_of_ble_eq_true rfl), (Nat.le_of_ble_eq_true rfl)⟩ dX0_begin_57
    · have hf := gneg' h_1 hf
      refine lv_aload_n hM.fx.1 hM.fx.2.1 dX0_begin_11 rfl (lv_at hl 0 rfl) ?_
      refine r_getR hM.fx hM.kf hH hLC fl_X0_23 hg0 gch_1_2 dX0_begin_12 ?_
      refine lv_iload_n hM.fx.1 hM.fx.2.1 dX0_begin_15 rfl (lv_at hl 2 rfl) ?_
      refine lv_iconst (v := gi (-1)) hM.fx.1 hM.fx.2.1 dX0_begin_16 rfl ?_
      obtain ⟨g_8, hf⟩ := gif hf
      refine r_iast hM.fx hM.kf hH (hLC.in (hLC.ch hg0 (by decide) gch_1_2) (by decide)) (⟨by decide, by decide⟩ : gAr 80 0) hr2 g_8 (gcR (k := -1) (by decide)) dX0_begin_17 (fun H locs hH => ?_)
      obtain ⟨M_9, eM_9, hf⟩ := gst_s hf
      rw [← eM_9] at hH
      obtain ⟨x_10, ex_10, hf⟩ := gst_s hf
      have hx_10 : gRI x_10 := by rw [ex_10]; exact gwi_r _
      refine r_iinc (lv' := [(2, .int (gi x_10)), (0, .ref (w.1 + a0)), (1, .int (gi x1))]) hM.fx dX0_begin_18 hl (k := 2) rfl (by decide) (by rw [ex_10]; rfl) (fun ls hl => ?_)
      refine lv_goto (tgt := 2) hM.fx.1 hM.fx.2.1 dX0_begin_21 (by decide) ?_
      exact ih _ _ _ _ _ hg0 hr1 hx_10 hf _ _ _ hH (lv_sub hl [1, 2, 0] rfl)
def fX0_begin (g : Nat → Nat) (a0 : Nat) (x1 : Int) (M : gMem) : Option gMem :=
  fX0_begin_2 g gF a0 x1 0 M
set_option maxHeartbeats 4000000 in
set_option maxRecDepth 100000 in
theorem mX0_begin {w : gW} {n : Nat} {Rm : Nat → Nat → Nat} {g : Nat → Nat} (hLC : gLC g n Rm) {l : Launch} (hl9 : l.stackTraces = false) {a0 : Nat} {x1 : Int} {M : gMem} {r : gMem} (hg0 : g a0 = 1) (hr1 : gRI x1) (hf : fX0_begin g a0 x1 M = some r) : gMT w n Rm l yX0_begin cX0_begin 3 none 1 60 0 0 [.ref (w.1 + a0), .int (gi x1)] M (.inr none) r True := by
  unfold fX0_begin at hf
  refine gMT.of hl9 (by decide +kernel) ((Nat.le_of_ble_eq_true rfl)) ?_
  intro p e s m below meth c hM hH ls hl
  have hM : gMC w p l s m ([.ref (w.1 + a0), .int (gi x1)] : List Value).toArray meth c cX0_begin 3 RX0 none := hM
  have hl : lv_has ls 3 [(0, .ref (w.1 + a0)), (1, .int (gi x1))] := hl
  refine lv_iconst (v := gi (0)) hM.fx.1 hM.fx.2.1 dX0_begin_0 rfl ?_
  refine lv_istore_n (lv' := [(2, .int (gi 0)), (0, .ref (w.1 + a0)), (1, .int (gi x1))]) hM.fx.1 hM.fx.2.1 dX0_begin_1 rfl hl (by decide) rfl (fun ls hl => ?_)
  exact wX0_begin_2 hLC hM  gF _ _ _ _ _ hg0 hr1 (gcR (k := 0) (by decide)) hf _ _ _ hH (lv_sub hl [1, 2, 0] rfl)
def fX4_copyFrom (g : Nat → Nat) (a0 : Nat) (a1 : Nat) (M : gMem) : Option gMem :=
  gst (gcp M (a1 + 1) (0 : Int).toNat (a0 + 1) (0 : Int).toNat (24 : Int).toNat) fun M_1 => gst (gcp M_1 (a1 + 2) (0 : Int).toNat (a0 + 2) (0 : Int).toNat (24 : Int).toNat) fun M_2 => gst (gcp M_2 (a1 + 3) (0 : Int).toNat (a0 + 3) (0 : Int).toNat (20 : Int).toNat) fun M_3 => gst (gup M_3 a0 3 (M_3 a1 3)) fun M_5 => gst (gup M_5 a0 4 (M_5 a1 4)) fun M_7 => gst (gup M_7 a0 5 (M_7 a1 5)) fun M_9 => gst (gup M_9 a0 6 (M_9 a1 6)) fun M_11 => gst (gup M_11 a0 7 (M_11 a1 7)) fun M_13 => gst (gup M_13 a0 8 (M_13 a1 8)) fun M_15 => gst (gup M_15 a0 9 (M_15 a1 9)) fun M_17 => gst (gup M_17 a0 10 (M_17 a1 10)) fun M_19 => gst (gup M_19 a0 11 (M_19 a1 11)) fun M_21 => gst (gup M_21 a0 12 (M_21 a1 12)) fun M_23 => gst (gup M_23 a0 13 (M_23 a1 13)) fun M_25 => gst (gup M_25 a0 14 (M_25 a1 14)) fun M_27 => some M_27
set_option maxHeartbeats 4000000 in
set_option maxRecDepth 100000 in
theorem mX4_copyFrom {w : gW} {n : Nat} {Rm : Nat → Nat → Nat} {g : Nat → Nat} (hLC : gLC g n Rm) {l : Launch} (hl9 : l.stackTraces = false) {a0 : Nat} {a1 : Nat} {M : gMem} {r : gMem} (hg0 : g a0 = 5) (hg1 : g a1 = 5) (hf : fX4_copyFrom g a0 a1 M = some r) : gMT w n Rm l yX4_copyFrom cX4_copyFrom 2 none 1 60 0 0 [.ref (w.1 + a0), .ref (w.1 + a1)] M (.inr none) r True := by
  unfold fX4_copyFrom at hf
  refine gMT.of hl9 (by decide +kernel) ((Nat.le_of_ble_eq_true rfl)) ?_
  intro p e s m below meth c hM hH ls hl
  have hM : gMC w p l s m ([.ref (w.1 + a0), .ref (w.1 + a1)] : List Value).toArray meth c cX4_copyFrom 2 RX4 none := hM
  have hl : lv_has ls 2 [(0, .ref (w.1 + a0)), (1, .ref (w.1 + a1))] := hl
  refine lv_aload_n hM.fx.1 hM.fx.2.1 dX4_copyFrom_0 rfl (lv_at hl 1 rfl) ?_
  refine r_getR hM.fx hM.kf hH hLC fl_X4_9 hg1 gch_5_0 dX4_copyFrom_1 ?_
  refine lv_iconst (v := gi (0)) hM.fx.1 hM.fx.2.1 dX4_copyFrom_4 rfl ?_
  refine lv_aload_n hM.fx.1 hM.fx.2.1 dX4_copyFrom_5 rfl (lv_at hl 0 rfl) ?_
  refine r_getR hM.fx hM.kf hH hLC fl_X4_9 hg0 gch_5_0 dX4_copyFrom_6 ?_
  refine lv_iconst (v := gi (0)) hM.fx.1 hM.fx.2.1 dX4_copyFrom_9 rfl ?_
  refine lv_bipush (v := gi (24)) hM.fx.1 hM.fx.2.1 dX4_copyFrom_10 (by decide) ?_
  refine r_copy hM.fx hM.kf hH hl.1 ⟨gw_652, gw_654, gw_653, gw_111⟩ (hLC.in (hLC.ch hg1 (by decide) gch_5_0) (by decide)) (⟨by decide, by decide⟩ : gAr 400 0) (hLC.in (hLC.ch hg0 (by decide) gch_5_0) (by decide)) (⟨by decide, by decide⟩ : gAr 400 0) ⟨(gcR (k := 0) (by decide)), (gcR (k := 0) (by decide)), (gcR (k := 24) (by decide))⟩ ⟨by decide, by decide, by decide⟩ (by decide) (by decide) ⟨(Nat.le_of_ble_eq_true rfl), (Nat.le_of_ble_eq_true rfl)⟩ dX4_copyFrom_12 (fun H locs hH => ?_)
  obtain ⟨M_1, eM_1, hf⟩ := gst_s hf
  rw [← eM_1] at hH
  refine lv_aload_n hM.fx.1 hM.fx.2.1 dX4_copyFrom_15 rfl (lv_at hl 1 rfl) ?_
  refine r_getR hM.fx hM.kf hH hLC fl_X4_15 hg1 gch_5_1 dX4_copyFrom_16 ?_
  refine lv_iconst (v := gi (0)) hM.fx.1 hM.fx.2.1 dX4_copyFrom_19 rfl ?_
  refine lv_aload_n hM.fx.1 hM.fx.2.1 dX4_copyFrom_20 rfl (lv_at hl 0 rfl) ?_
  refine r_getR hM.fx hM.kf hH hLC fl_X4_15 hg0 gch_5_1 dX4_copyFrom_21 ?_
  refine lv_iconst (v := gi (0)) hM.fx.1 hM.fx.2.1 dX4_copyFrom_24 rfl ?_
  refine lv_bipush (v := gi (24)) hM.fx.1 hM.fx.2.1 dX4_copyFrom_25 (by decide) ?_
  refine r_copy hM.fx hM.kf hH hl.1 ⟨gw_652, gw_654, gw_653, gw_111⟩ (hLC.in (hLC.ch hg1 (by decide) gch_5_1) (by decide)) (⟨by decide, by decide⟩ : gAr 400 0) (hLC.in (hLC.ch hg0 (by decide) gch_5_1) (by decide)) (⟨by decide, by decide⟩ : gAr 400 0) ⟨(gcR (k := 0) (by decide)), (gcR (k := 0) (by decide)), (gcR (k := 24) (by decide))⟩ ⟨by decide, by decide, by decide⟩ (by decide) (by decide) ⟨(Nat.le_of_ble_eq_true rfl), (Nat.le_of_ble_eq_true rfl)⟩ dX4_copyFrom_27 (fun H locs hH => ?_)
  obtain ⟨M_2, eM_2, hf⟩ := gst_s hf
  rw [← eM_2] at hH
  refine lv_aload_n hM.fx.1 hM.fx.2.1 dX4_copyFrom_30 rfl (lv_at hl 1 rfl) ?_
  refine r_getR hM.fx hM.kf hH hLC fl_X4_18 hg1 gch_5_2 dX4_copyFrom_31 ?_
  refine lv_iconst (v := gi (0)) hM.fx.1 hM.fx.2.1 dX4_copyFrom_34 rfl ?_
  refine lv_aload_n hM.fx.1 hM.fx.2.1 dX4_copyFrom_35 rfl (lv_at hl 0 rfl) ?_
  refine r_getR hM.fx hM.kf hH hLC fl_X4_18 hg0 gch_5_2 dX4_copyFrom_36 ?_
  refine lv_iconst (v := gi (0)) hM.fx.1 hM.fx.2.1 dX4_copyFrom_39 rfl ?_
  refine lv_bipush (v := gi (20)) hM.fx.1 hM.fx.2.1 dX4_copyFrom_40 (by decide) ?_
  refine r_copy hM.fx hM.kf hH hl.1 ⟨gw_652, gw_654, gw_653, gw_111⟩ (hLC.in (hLC.ch hg1 (by decide) gch_5_2) (by decide)) (⟨by decide, by decide⟩ : gAr 336 0) (hLC.in (hLC.ch hg0 (by decide) gch_5_2) (by decide)) (⟨by decide, by decide⟩ : gAr 336 0) ⟨(gcR (k := 0) (by decide)), (gcR (k := 0) (by decide)), (gcR (k := 20) (by decide))⟩ ⟨by decide, by decide, by decide⟩ (by decide) (by decide) ⟨(Nat.le_of_ble_eq_true rfl), (Nat.le_of_ble_eq_true rfl)⟩ dX4_copyFrom_42 (fun H locs hH => ?_)
  obtain ⟨M_3, eM_3, hf⟩ := gst_s hf
  rw [← eM_3] at hH
  refine lv_aload_n hM.fx.1 hM.fx.2.1 dX4_copyFrom_45 rfl (lv_at hl 0 rfl) ?_
  refine lv_aload_n hM.fx.1 hM.fx.2.1 dX4_copyFrom_46 rfl (lv_at hl 1 rfl) ?_
  refine r_getL hM.fx hM.kf hH fl_X4_21 (hLC.in hg1 (by decide)) dX4_copyFrom_47 ?_
  have hr_4 := hH.2.2.l (hLC.in hg1 (by decide)).2.2 (by decide : glg 5 3 = true)
  refine r_putL hM.fx hM.kf hH fp_X4_21 (hLC.in hg0 (by decide)) hr_4 dX4_copyFrom_50 (fun H locs hH => ?_)
  obtain ⟨M_5, eM_5, hf⟩ := gst_s hf
  rw [← eM_5] at hH
  refine lv_aload_n hM.fx.1 hM.fx.2.1 dX4_copyFrom_53 rfl (lv_at hl 0 rfl) ?_
  refine lv_aload_n hM.fx.1 hM.fx.2.1 dX4_copyFrom_54 rfl (lv_at hl 1 rfl) ?_
  refine r_getI hM.fx hM.kf hH fl_X4_25 (hLC.in hg1 (by decide)) dX4_copyFrom_55 ?_
  have hr_6 := hH.2.2.i (hLC.in hg1 (by decide)).2.2 (by decide : glg 5 4 = false)
  refine r_putI hM.fx hM.kf hH fp_X4_25 (hLC.in hg0 (by decide)) hr_6 dX4_copyFrom_58 (fun H locs hH => ?_)
  obtain ⟨M_7, eM_7, hf⟩ := gst_s hf
  rw [← eM_7] at hH
  refine lv_aload_n hM.fx.1 hM.fx.2.1 dX4_copyFrom_61 rfl (lv_at hl 0 rfl) ?_
  refine lv_aload_n hM.fx.1 hM.fx.2.1 dX4_copyFrom_62 rfl (lv_at hl 1 rfl) ?_
  refine r_getI hM.fx hM.kf hH fl_X4_29 (hLC.in hg1 (by decide)) dX4_copyFrom_63 ?_
  have hr_8 := hH.2.2.i (hLC.in hg1 (by decide)).2.2 (by decide : glg 5 5 = false)
  refine r_putI hM.fx hM.kf hH fp_X4_29 (hLC.in hg0 (by decide)) hr_8 dX4_copyFrom_66 (fun H locs hH => ?_)
  obtain ⟨M_9, eM_9, hf⟩ := gst_s hf
  rw [← eM_9] at hH
  refine lv_aload_n hM.fx.1 hM.fx.2.1 dX4_copyFrom_69 rfl (lv_at hl 0 rfl) ?_
  refine lv_aload_n hM.fx.1 hM.fx.2.1 dX4_copyFrom_70 rfl (lv_at hl 1 rfl) ?_
  refine r_getI hM.fx hM.kf hH fl_X4_32 (hLC.in hg1 (by decide)) dX4_copyFrom_71 ?_
  have hr_10 := hH.2.2.i (hLC.in hg1 (by decide)).2.2 (by decide : glg 5 6 = false)
  refine r_putI hM.fx hM.kf hH fp_X4_32 (hLC.in hg0 (by decide)) hr_10 dX4_copyFrom_74 (fun H locs hH => ?_)
  obtain ⟨M_11, eM_11, hf⟩ := gst_s hf
  rw [← eM_11] at hH
  refine lv_aload_n hM.fx.1 hM.fx.2.1 dX4_copyFrom_77 rfl (lv_at hl 0 rfl) ?_
  refine lv_aload_n hM.fx.1 hM.fx.2.1 dX4_copyFrom_78 rfl (lv_at hl 1 rfl) ?_
  refine r_getI hM.fx hM.kf hH fl_X4_35 (hLC.in hg1 (by decide)) dX4_copyFrom_79 ?_
  have hr_12 := hH.2.2.i (hLC.in hg1 (by decide)).2.2 (by decide : glg 5 7 = false)
  refine r_putI hM.fx hM.kf hH fp_X4_35 (hLC.in hg0 (by decide)) hr_12 dX4_copyFrom_82 (fun H locs hH => ?_)
  obtain ⟨M_13, eM_13, hf⟩ := gst_s hf
  rw [← eM_13] at hH
  refine lv_aload_n hM.fx.1 hM.fx.2.1 dX4_copyFrom_85 rfl (lv_at hl 0 rfl) ?_
  refine lv_aload_n hM.fx.1 hM.fx.2.1 dX4_copyFrom_86 rfl (lv_at hl 1 rfl) ?_
  refine r_getI hM.fx hM.kf hH fl_X4_38 (hLC.in hg1 (by decide)) dX4_copyFrom_87 ?_
  have hr_14 := hH.2.2.i (hLC.in hg1 (by decide)).2.2 (by decide : glg 5 8 = false)
  refine r_putI hM.fx hM.kf hH fp_X4_38 (hLC.in hg0 (by decide)) hr_14 dX4_copyFrom_90 (fun H locs hH => ?_)
  obtain ⟨M_15, eM_15, hf⟩ := gst_s hf
  rw [← eM_15] at hH
  refine lv_aload_n hM.fx.1 hM.fx.2.1 dX4_copyFrom_93 rfl (lv_at hl 0 rfl) ?_
  refine lv_aload_n hM.fx.1 hM.fx.2.1 dX4_copyFrom_94 rfl (lv_at hl 1 rfl) ?_
  refine r_getI hM.fx hM.kf hH fl_X4_41 (hLC.in hg1 (by decide)) dX4_copyFrom_95 ?_
  have hr_16 := hH.2.2.i (hLC.in hg1 (by decide)).2.2 (by decide : glg 5 9 = false)
  refine r_putI hM.fx hM.kf hH fp_X4_41 (hLC.in hg0 (by decide)) hr_16 dX4_copyFrom_98 (fun H locs hH => ?_)
  obtain ⟨M_17, eM_17, hf⟩ := gst_s hf
  rw [← eM_17] at hH
  refine lv_aload_n hM.fx.1 hM.fx.2.1 dX4_copyFrom_101 rfl (lv_at hl 0 rfl) ?_
  refine lv_aload_n hM.fx.1 hM.fx.2.1 dX4_copyFrom_102 rfl (lv_at hl 1 rfl) ?_
  refine r_getI hM.fx hM.kf hH fl_X4_44 (hLC.in hg1 (by decide)) dX4_copyFrom_103 ?_
  have hr_18 := hH.2.2.i (hLC.in hg1 (by decide)).2.2 (by decide : glg 5 10 = false)
  refine r_putI hM.fx hM.kf hH fp_X4_44 (hLC.in hg0 (by decide)) hr_18 dX4_copyFrom_106 (fun H locs hH => ?_)
  obtain ⟨M_19, eM_19, hf⟩ := gst_s hf
  rw [← eM_19] at hH
  refine lv_aload_n hM.fx.1 hM.fx.2.1 dX4_copyFrom_109 rfl (lv_at hl 0 rfl) ?_
  refine lv_aload_n hM.fx.1 hM.fx.2.1 dX4_copyFrom_110 rfl (lv_at hl 1 rfl) ?_
  refine r_getI hM.fx hM.kf hH fl_X4_47 (hLC.in hg1 (by decide)) dX4_copyFrom_111 ?_
  have hr_20 := hH.2.2.i (hLC.in hg1 (by decide)).2.2 (by decide : glg 5 11 = false)
  refine r_putI hM.fx hM.kf hH fp_X4_47 (hLC.in hg0 (by decide)) hr_20 dX4_copyFrom_114 (fun H locs hH => ?_)
  obtain ⟨M_21, eM_21, hf⟩ := gst_s hf
  rw [← eM_21] at hH
  refine lv_aload_n hM.fx.1 hM.fx.2.1 dX4_copyFrom_117 rfl (lv_at hl 0 rfl) ?_
  refine lv_aload_n hM.fx.1 hM.fx.2.1 dX4_copyFrom_118 rfl (lv_at hl 1 rfl) ?_
  refine r_getI hM.fx hM.kf hH fl_X4_50 (hLC.in hg1 (by decide)) dX4_copyFrom_119 ?_
  have hr_22 := hH.2.2.i (hLC.in hg1 (by decide)).2.2 (by decide : glg 5 12 = false)
  refine r_putI hM.fx hM.kf hH fp_X4_50 (hLC.in hg0 (by decide)) hr_22 dX4_copyFrom_122 (fun H locs hH => ?_)
  obtain ⟨M_23, eM_23, hf⟩ := gst_s hf
  rw [← eM_23] at hH
  refine lv_aload_n hM.fx.1 hM.fx.2.1 dX4_copyFrom_125 rfl (lv_at hl 0 rfl) ?_
  refine lv_aload_n hM.fx.1 hM.fx.2.1 dX4_copyFrom_126 rfl (lv_at hl 1 rfl) ?_
  refine r_getI hM.fx hM.kf hH fl_X4_53 (hLC.in hg1 (by decide)) dX4_copyFrom_127 ?_
  have hr_24 := hH.2.2.i (hLC.in hg1 (by decide)).2.2 (by decide : glg 5 13 = false)
  refine r_putI hM.fx hM.kf hH fp_X4_53 (hLC.in hg0 (by decide)) hr_24 dX4_copyFrom_130 (fun H locs hH => ?_)
  obtain ⟨M_25, eM_25, hf⟩ := gst_s hf
  rw [← eM_25] at hH
  refine lv_aload_n hM.fx.1 hM.fx.2.1 dX4_copyFrom_133 rfl (lv_at hl 0 rfl) ?_
  refine lv_aload_n hM.fx.1 hM.fx.2.1 dX4_copyFrom_134 rfl (lv_at hl 1 rfl) ?_
  refine r_getI hM.fx hM.kf hH fl_X4_56 (hLC.in hg1 (by decide)) dX4_copyFrom_135 ?_
  have hr_26 := hH.2.2.i (hLC.in hg1 (by decide)).2.2 (by decide : glg 5 14 = false)
  refine r_putI hM.fx hM.kf hH fp_X4_56 (hLC.in hg0 (by decide)) hr_26 dX4_copyFrom_138 (fun H locs hH => ?_)
  obtain ⟨M_27, eM_27, hf⟩ := gst_s hf
  rw [← eM_27] at hH
  obtain rfl := Option.some.inj hf
  exact r_vret hM hH trivial ⟨(Nat.le_of_ble_eq_true rfl), (Nat.le_of_ble_eq_true rfl)⟩ dX4_copyFrom_141
def fX3_copyFrom (g : Nat → Nat) (a0 : Nat) (a1 : Nat) (M : gMem) : Option gMem :=
  gst (gcp M (a1 + 1) (0 : Int).toNat (a0 + 1) (0 : Int).toNat (16 : Int).toNat) fun M_1 => gst (gup M_1 a0 1 (M_1 a1 1)) fun M_3 => gst (gup M_3 a0 2 (M_3 a1 2)) fun M_5 => gst (gup M_5 a0 3 (M_5 a1 3)) fun M_7 => gst (gup M_7 a0 4 (M_7 a1 4)) fun M_9 => gst (gup M_9 a0 5 (M_9 a1 5)) fun M_11 => some M_11
set_option maxHeartbeats 4000000 in
set_option maxRecDepth 100000 in
theorem mX3_copyFrom {w : gW} {n : Nat} {Rm : Nat → Nat → Nat} {g : Nat → Nat} (hLC : gLC g n Rm) {l : Launch} (hl9 : l.stackTraces = false) {a0 : Nat} {a1 : Nat} {M : gMem} {r : gMem} (hg0 : g a0 = 4) (hg1 : g a1 = 4) (hf : fX3_copyFrom g a0 a1 M = some r) : gMT w n Rm l yX3_copyFrom cX3_copyFrom 2 none 1 60 0 0 [.ref (w.1 + a0), .ref (w.1 + a1)] M (.inr none) r True := by
  unfold fX3_copyFrom at hf
  refine gMT.of hl9 (by decide +kernel) ((Nat.le_of_ble_eq_true rfl)) ?_
  intro p e s m below meth c hM hH ls hl
  have hM : gMC w p l s m ([.ref (w.1 + a0), .ref (w.1 + a1)] : List Value).toArray meth c cX3_copyFrom 2 RX3 none := hM
  have hl : lv_has ls 2 [(0, .ref (w.1 + a0)), (1, .ref (w.1 + a1))] := hl
  refine lv_aload_n hM.fx.1 hM.fx.2.1 dX3_copyFrom_0 rfl (lv_at hl 1 rfl) ?_
  refine r_getR hM.fx hM.kf hH hLC fl_X3_9 hg1 gch_4_0 dX3_copyFrom_1 ?_
  refine lv_iconst (v := gi (0)) hM.fx.1 hM.fx.2.1 dX3_copyFrom_4 rfl ?_
  refine lv_aload_n hM.fx.1 hM.fx.2.1 dX3_copyFrom_5 rfl (lv_at hl 0 rfl) ?_
  refine r_getR hM.fx hM.kf hH hLC fl_X3_9 hg0 gch_4_0 dX3_copyFrom_6 ?_
  refine lv_iconst (v := gi (0)) hM.fx.1 hM.fx.2.1 dX3_copyFrom_9 rfl ?_
  refine lv_bipush (v := gi (16)) hM.fx.1 hM.fx.2.1 dX3_copyFrom_10 (by decide) ?_
  refine r_copy hM.fx hM.kf hH hl.1 ⟨gw_659, gw_654, gw_653, gw_111⟩ (hLC.in (hLC.ch hg1 (by decide) gch_4_0) (by decide)) (⟨by decide, by decide⟩ : gAr 272 0) (hLC.in (hLC.ch hg0 (by decide) gch_4_0) (by decide)) (⟨by decide, by decide⟩ : gAr 272 0) ⟨(gcR (k := 0) (by decide)), (gcR (k := 0) (by decide)), (gcR (k := 16) (by decide))⟩ ⟨by decide, by decide, by decide⟩ (by decide) (by decide) ⟨(Nat.le_of_ble_eq_true rfl), (Nat.le_of_ble_eq_true rfl)⟩ dX3_copyFrom_12 (fun H locs hH => ?_)
  obtain ⟨M_1, eM_1, hf⟩ := gst_s hf
  rw [← eM_1] at hH
  refine lv_aload_n hM.fx.1 hM.fx.2.1 dX3_copyFrom_15 rfl (lv_at hl 0 rfl) ?_
  refine lv_aload_n hM.fx.1 hM.fx.2.1 dX3_copyFrom_16 rfl (lv_at hl 1 rfl) ?_
  refine r_getI hM.fx hM.kf hH fl_X3_15 (hLC.in hg1 (by decide)) dX3_copyFrom_17 ?_
  have hr_2 := hH.2.2.i (hLC.in hg1 (by decide)).2.2 (by decide : glg 4 1 = false)
  refine r_putI hM.fx hM.kf hH fp_X3_15 (hLC.in hg0 (by decide)) hr_2 dX3_copyFrom_20 (fun H locs hH => ?_)
  obtain ⟨M_3, eM_3, hf⟩ := gst_s hf
  rw [← eM_3] at hH
  refine lv_aload_n hM.fx.1 hM.fx.2.1 dX3_copyFrom_23 rfl (lv_at hl 0 rfl) ?_
  refine lv_aload_n hM.fx.1 hM.fx.2.1 dX3_copyFrom_24 rfl (lv_at hl 1 rfl) ?_
  refine r_getI hM.fx hM.kf hH fl_X3_19 (hLC.in hg1 (by decide)) dX3_copyFrom_25 ?_
  have hr_4 := hH.2.2.i (hLC.in hg1 (by decide)).2.2 (by decide : glg 4 2 = false)
  refine r_putI hM.fx hM.kf hH fp_X3_19 (hLC.in hg0 (by decide)) hr_4 dX3_copyFrom_28 (fun H locs hH => ?_)
  obtain ⟨M_5, eM_5, hf⟩ := gst_s hf
  rw [← eM_5] at hH
  refine lv_aload_n hM.fx.1 hM.fx.2.1 dX3_copyFrom_31 rfl (lv_at hl 0 rfl) ?_
  refine lv_aload_n hM.fx.1 hM.fx.2.1 dX3_copyFrom_32 rfl (lv_at hl 1 rfl) ?_
  refine r_getI hM.fx hM.kf hH fl_X3_22 (hLC.in hg1 (by decide)) dX3_copyFrom_33 ?_
  have hr_6 := hH.2.2.i (hLC.in hg1 (by decide)).2.2 (by decide : glg 4 3 = false)
  refine r_putI hM.fx hM.kf hH fp_X3_22 (hLC.in hg0 (by decide)) hr_6 dX3_copyFrom_36 (fun H locs hH => ?_)
  obtain ⟨M_7, eM_7, hf⟩ := gst_s hf
  rw [← eM_7] at hH
  refine lv_aload_n hM.fx.1 hM.fx.2.1 dX3_copyFrom_39 rfl (lv_at hl 0 rfl) ?_
  refine lv_aload_n hM.fx.1 hM.fx.2.1 dX3_copyFrom_40 rfl (lv_at hl 1 rfl) ?_
  refine r_getI hM.fx hM.kf hH fl_X3_25 (hLC.in hg1 (by decide)) dX3_copyFrom_41 ?_
  have hr_8 := hH.2.2.i (hLC.in hg1 (by decide)).2.2 (by decide : glg 4 4 = false)
  refine r_putI hM.fx hM.kf hH fp_X3_25 (hLC.in hg0 (by decide)) hr_8 dX3_copyFrom_44 (fun H locs hH => ?_)
  obtain ⟨M_9, eM_9, hf⟩ := gst_s hf
  rw [← eM_9] at hH
  refine lv_aload_n hM.fx.1 hM.fx.2.1 dX3_copyFrom_47 rfl (lv_at hl 0 rfl) ?_
  refine lv_aload_n hM.fx.1 hM.fx.2.1 dX3_copyFrom_48 rfl (lv_at hl 1 rfl) ?_
  refine r_getI hM.fx hM.kf hH fl_X3_28 (hLC.in hg1 (by decide)) dX3_copyFrom_49 ?_
  have hr_10 := hH.2.2.i (hLC.in hg1 (by decide)).2.2 (by decide : glg 4 5 = false)
  refine r_putI hM.fx hM.kf hH fp_X3_28 (hLC.in hg0 (by decide)) hr_10 dX3_copyFrom_52 (fun H locs hH => ?_)
  obtain ⟨M_11, eM_11, hf⟩ := gst_s hf
  rw [← eM_11] at hH
  obtain rfl := Option.some.inj hf
  exact r_vret hM hH trivial ⟨(Nat.le_of_ble_eq_true rfl), (Nat.le_of_ble_eq_true rfl)⟩ dX3_copyFrom_55
def fX2_copyFrom (g : Nat → Nat) (a0 : Nat) (a1 : Nat) (M : gMem) : Option gMem :=
  gst (gcp M (a1 + 1) (0 : Int).toNat (a0 + 1) (0 : Int).toNat (40 : Int).toNat) fun M_1 => gst (gcp M_1 (a1 + 2) (0 : Int).toNat (a0 + 2) (0 : Int).toNat (40 : Int).toNat) fun M_2 => gst (gcp M_2 (a1 + 3) (0 : Int).toNat (a0 + 3) (0 : Int).toNat (40 : Int).toNat) fun M_3 => gst (gcp M_3 (a1 + 4) (0 : Int).toNat (a0 + 4) (0 : Int).toNat (40 : Int).toNat) fun M_4 => gst (gup M_4 a0 4 (M_4 a1 4)) fun M_6 => some M_6
set_option maxHeartbeats 4000000 in
set_option maxRecDepth 100000 in
theorem mX2_copyFrom {w : gW} {n : Nat} {Rm : Nat → Nat → Nat} {g : Nat → Nat} (hLC : gLC g n Rm) {l : Launch} (hl9 : l.stackTraces = false) {a0 : Nat} {a1 : Nat} {M : gMem} {r : gMem} (hg0 : g a0 = 3) (hg1 : g a1 = 3) (hf : fX2_copyFrom g a0 a1 M = some r) : gMT w n Rm l yX2_copyFrom cX2_copyFrom 2 none 1 60 0 0 [.ref (w.1 + a0), .ref (w.1 + a1)] M (.inr none) r True := by
  unfold fX2_copyFrom at hf
  refine gMT.of hl9 (by decide +kernel) ((Nat.le_of_ble_eq_true rfl)) ?_
  intro p e s m below meth c hM hH ls hl
  have hM : gMC w p l s m ([.ref (w.1 + a0), .ref (w.1 + a1)] : List Value).toArray meth c cX2_copyFrom 2 RX2 none := hM
  have hl : lv_has ls 2 [(0, .ref (w.1 + a0)), (1, .ref (w.1 + a1))] := hl
  refine lv_aload_n hM.fx.1 hM.fx.2.1 dX2_copyFrom_0 rfl (lv_at hl 1 rfl) ?_
  refine r_getR hM.fx hM.kf hH hLC fl_X2_9 hg1 gch_3_0 dX2_copyFrom_1 ?_
  refine lv_iconst (v := gi (0)) hM.fx.1 hM.fx.2.1 dX2_copyFrom_4 rfl ?_
  refine lv_aload_n hM.fx.1 hM.fx.2.1 dX2_copyFrom_5 rfl (lv_at hl 0 rfl) ?_
  refine r_getR hM.fx hM.kf hH hLC fl_X2_9 hg0 gch_3_0 dX2_copyFrom_6 ?_
  refine lv_iconst (v := gi (0)) hM.fx.1 hM.fx.2.1 dX2_copyFrom_9 rfl ?_
  refine lv_bipush (v := gi (40)) hM.fx.1 hM.fx.2.1 dX2_copyFrom_10 (by decide) ?_
  refine r_copy hM.fx hM.kf hH hl.1 ⟨gw_665, gw_654, gw_653, gw_111⟩ (hLC.in (hLC.ch hg1 (by decide) gch_3_0) (by decide)) (⟨by decide, by decide⟩ : gAr 656 0) (hLC.in (hLC.ch hg0 (by decide) gch_3_0) (by decide)) (⟨by decide, by decide⟩ : gAr 656 0) ⟨(gcR (k := 0) (by decide)), (gcR (k := 0) (by decide)), (gcR (k := 40) (by decide))⟩ ⟨by decide, by decide, by decide⟩ (by decide) (by decide) ⟨(Nat.le_of_ble_eq_true rfl), (Nat.le_of_ble_eq_true rfl)⟩ dX2_copyFrom_12 (fun H locs hH => ?_)
  obtain ⟨M_1, eM_1, hf⟩ := gst_s hf
  rw [← eM_1] at hH
  refine lv_aload_n hM.fx.1 hM.fx.2.1 dX2_copyFrom_15 rfl (lv_at hl 1 rfl) ?_
  refine r_getR hM.fx hM.kf hH hLC fl_X2_15 hg1 gch_3_1 dX2_copyFrom_16 ?_
  refine lv_iconst (v := gi (0)) hM.fx.1 hM.fx.2.1 dX2_copyFrom_19 rfl ?_
  refine lv_aload_n hM.fx.1 hM.fx.2.1 dX2_copyFrom_20 rfl (lv_at hl 0 rfl) ?_
  refine r_getR hM.fx hM.kf hH hLC fl_X2_15 hg0 gch_3_1 dX2_copyFrom_21 ?_
  refine lv_iconst (v := gi (0)) hM.fx.1 hM.fx.2.1 dX2_copyFrom_24 rfl ?_
  refine lv_bipush (v := gi (40)) hM.fx.1 hM.fx.2.1 dX2_copyFrom_25 (by decide) ?_
  refine r_copy hM.fx hM.kf hH hl.1 ⟨gw_665, gw_654, gw_653, gw_111⟩ (hLC.in (hLC.ch hg1 (by decide) gch_3_1) (by decide)) (⟨by decide, by decide⟩ : gAr 656 0) (hLC.in (hLC.ch hg0 (by decide) gch_3_1) (by decide)) (⟨by decide, by decide⟩ : gAr 656 0) ⟨(gcR (k := 0) (by decide)), (gcR (k := 0) (by decide)), (gcR (k := 40) (by decide))⟩ ⟨by decide, by decide, by decide⟩ (by decide) (by decide) ⟨(Nat.le_of_ble_eq_true rfl), (Nat.le_of_ble_eq_true rfl)⟩ dX2_copyFrom_27 (fun H locs hH => ?_)
  obtain ⟨M_2, eM_2, hf⟩ := gst_s hf
  rw [← eM_2] at hH
  refine lv_aload_n hM.fx.1 hM.fx.2.1 dX2_copyFrom_30 rfl (lv_at hl 1 rfl) ?_
  refine r_getR hM.fx hM.kf hH hLC fl_X2_18 hg1 gch_3_2 dX2_copyFrom_31 ?_
  refine lv_iconst (v := gi (0)) hM.fx.1 hM.fx.2.1 dX2_copyFrom_34 rfl ?_
  refine lv_aload_n hM.fx.1 hM.fx.2.1 dX2_copyFrom_35 rfl (lv_at hl 0 rfl) ?_
  refine r_getR hM.fx hM.kf hH hLC fl_X2_18 hg0 gch_3_2 dX2_copyFrom_36 ?_
  refine lv_iconst (v := gi (0)) hM.fx.1 hM.fx.2.1 dX2_copyFrom_39 rfl ?_
  refine lv_bipush (v := gi (40)) hM.fx.1 hM.fx.2.1 dX2_copyFrom_40 (by decide) ?_
  refine r_copy hM.fx hM.kf hH hl.1 ⟨gw_665, gw_654, gw_653, gw_111⟩ (hLC.in (hLC.ch hg1 (by decide) gch_3_2) (by decide)) (⟨by decide, by decide⟩ : gAr 656 0) (hLC.in (hLC.ch hg0 (by decide) gch_3_2) (by decide)) (⟨by decide, by decide⟩ : gAr 656 0) ⟨(gcR (k := 0) (by decide)), (gcR (k := 0) (by decide)), (gcR (k := 40) (by decide))⟩ ⟨by decide, by decide, by decide⟩ (by decide) (by decide) ⟨(Nat.le_of_ble_eq_true rfl), (Nat.le_of_ble_eq_true rfl)⟩ dX2_copyFrom_42 (fun H locs hH => ?_)
  obtain ⟨M_3, eM_3, hf⟩ := gst_s hf
  rw [← eM_3] at hH
  refine lv_aload_n hM.fx.1 hM.fx.2.1 dX2_copyFrom_45 rfl (lv_at hl 1 rfl) ?_
  refine r_getR hM.fx hM.kf hH hLC fl_X2_21 hg1 gch_3_3 dX2_copyFrom_46 ?_
  refine lv_iconst (v := gi (0)) hM.fx.1 hM.fx.2.1 dX2_copyFrom_49 rfl ?_
  refine lv_aload_n hM.fx.1 hM.fx.2.1 dX2_copyFrom_50 rfl (lv_at hl 0 rfl) ?_
  refine r_getR hM.fx hM.kf hH hLC fl_X2_21 hg0 gch_3_3 dX2_copyFrom_51 ?_
  refine lv_iconst (v := gi (0)) hM.fx.1 hM.fx.2.1 dX2_copyFrom_54 rfl ?_
  refine lv_bipush (v := gi (40)) hM.fx.1 hM.fx.2.1 dX2_copyFrom_55 (by decide) ?_
  refine r_copy hM.fx hM.kf hH hl.1 ⟨gw_665, gw_654, gw_653, gw_111⟩ (hLC.in (hLC.ch hg1 (by decide) gch_3_3) (by decide)) (⟨by decide, by decide⟩ : gAr 656 0) (hLC.in (hLC.ch hg0 (by decide) gch_3_3) (by decide)) (⟨by decide, by decide⟩ : gAr 656 0) ⟨(gcR (k := 0) (by decide)), (gcR (k := 0) (by decide)), (gcR (k := 40) (by decide))⟩ ⟨by decide, by decide, by decide⟩ (by decide) (by decide) ⟨(Nat.le_of_ble_eq_true rfl), (Nat.le_of_ble_eq_true rfl)⟩ dX2_copyFrom_57 (fun H locs hH => ?_)
  obtain ⟨M_4, eM_4, hf⟩ := gst_s hf
  rw [← eM_4] at hH
  refine lv_aload_n hM.fx.1 hM.fx.2.1 dX2_copyFrom_60 rfl (lv_at hl 0 rfl) ?_
  refine lv_aload_n hM.fx.1 hM.fx.2.1 dX2_copyFrom_61 rfl (lv_at hl 1 rfl) ?_
  refine r_getI hM.fx hM.kf hH fl_X2_30 (hLC.in hg1 (by decide)) dX2_copyFrom_62 ?_
  have hr_5 := hH.2.2.i (hLC.in hg1 (by decide)).2.2 (by decide : glg 3 4 = false)
  refine r_putI hM.fx hM.kf hH fp_X2_30 (hLC.in hg0 (by decide)) hr_5 dX2_copyFrom_65 (fun H locs hH => ?_)
  obtain ⟨M_6, eM_6, hf⟩ := gst_s hf
  rw [← eM_6] at hH
  obtain rfl := Option.some.inj hf
  exact r_vret hM hH trivial ⟨(Nat.le_of_ble_eq_true rfl), (Nat.le_of_ble_eq_true rfl)⟩ dX2_copyFrom_68
def fX0_copyFrom_82 (g : Nat → Nat)  (a0 : Nat) (a1 : Nat) (M : gMem) : Option gMem :=
  gst (gcp M (a1 + 3) (0 : Int).toNat (a0 + 3) (0 : Int).toNat (4 : Int).toNat) fun M_1 => (fX2_copyFrom g (a0 + 4) (a1 + 4) M_1).bind fun M_3 => gst (gup M_3 a0 4 (M_3 a1 4)) fun M_5 => gst (gup M_5 a0 5 (M_5 a1 5)) fun M_7 => gst (gup M_7 a0 6 (M_7 a1 6)) fun M_9 => gst (gup M_9 a0 7 (M_9 a1 7)) fun M_11 => gst (gup M_11 a0 8 (M_11 a1 8)) fun M_13 => some M_13
set_option maxHeartbeats 4000000 in
set_option maxRecDepth 100000 in
theorem wX0_copyFrom_82 {w : gW} {n : Nat} {Rm : Nat → Nat → Nat} {g : Nat → Nat} (hLC : gLC g n Rm) {p : Program} {l : Launch} {e : Env} {s : State} {m : MethodId} {args : Array Value} {below : List Frame} {meth : Method} {c : Code} (hM : gMC w p l s m args meth c cX0_copyFrom 3 RX0 none)  : ∀ (a0 : Nat) (a1 : Nat) (M : gMem) (r : gMem) (hg0 : g a0 = 1) (hg1 : g a1 = 1) (hf : fX0_copyFrom_82 g a0 a1 M = some r) (H : Heap) (locs : List Loc) (ls : Array Slot) (hH : gH w n Rm M s H locs) (hl : lv_has ls 3 [(0, .ref (w.1 + a0)), (1, .ref (w.1 + a1))]), W p l e { frames := 2, cells := 0, slots := 0, locals := 81 } s m args below meth c H locs 0 0 (gQ w n Rm below args s 0 0 (.inr none) r True) (F0 m 82 ls []) := by
  intro a0 a1 M r hg0 hg1 hf H locs ls hH hl
  unfold fX0_copyFrom_82 at hf
  refine lv_aload_n hM.fx.1 hM.fx.2.1 dX0_copyFrom_82 rfl (lv_at hl 1 rfl) ?_
  refine r_getR hM.fx hM.kf hH hLC fl_X0_23 hg1 gch_1_2 dX0_copyFrom_83 ?_
  refine lv_iconst (v := gi (0)) hM.fx.1 hM.fx.2.1 dX0_copyFrom_86 rfl ?_
  refine lv_aload_n hM.fx.1 hM.fx.2.1 dX0_copyFrom_87 rfl (lv_at hl 0 rfl) ?_
  refine r_getR hM.fx hM.kf hH hLC fl_X0_23 hg0 gch_1_2 dX0_copyFrom_88 ?_
  refine lv_iconst (v := gi (0)) hM.fx.1 hM.fx.2.1 dX0_copyFrom_91 rfl ?_
  refine lv_iconst (v := gi (4)) hM.fx.1 hM.fx.2.1 dX0_copyFrom_92 rfl ?_
  refine r_copy hM.fx hM.kf hH hl.1 ⟨gw_660, gw_654, gw_653, gw_111⟩ (hLC.in (hLC.ch hg1 (by decide) gch_1_2) (by decide)) (⟨by decide, by decide⟩ : gAr 80 0) (hLC.in (hLC.ch hg0 (by decide) gch_1_2) (by decide)) (⟨by decide, by decide⟩ : gAr 80 0) ⟨(gcR (k := 0) (by decide)), (gcR (k := 0) (by decide)), (gcR (k := 4) (by decide))⟩ ⟨by decide, by decide, by decide⟩ (by decide) (by decide) ⟨(Nat.le_of_ble_eq_true rfl), (Nat.le_of_ble_eq_true rfl)⟩ dX0_copyFrom_93 (fun H locs hH => ?_)
  obtain ⟨M_1, eM_1, hf⟩ := gst_s hf
  rw [← eM_1] at hH
  refine lv_aload_n hM.fx.1 hM.fx.2.1 dX0_copyFrom_96 rfl (lv_at hl 0 rfl) ?_
  refine r_getR hM.fx hM.kf hH hLC fl_X0_30 hg0 gch_1_3 dX0_copyFrom_97 ?_
  refine lv_aload_n hM.fx.1 hM.fx.2.1 dX0_copyFrom_100 rfl (lv_at hl 1 rfl) ?_
  refine r_getR hM.fx hM.kf hH hLC fl_X0_30 hg1 gch_1_3 dX0_copyFrom_101 ?_
  obtain ⟨M_3, eM_3, hf⟩ := gbd hf
  refine r_go0 hH rfl (r_runV (As := [.ref (w.1 + (a1 + 4))]) hM hH cv_X0_68 (mX2_copyFrom hLC hM.ns (hLC.ch hg0 (by decide) gch_1_3) (hLC.ch hg1 (by decide) gch_1_3) eM_3) (hLC.in (hLC.ch hg0 (by decide) gch_1_3) (by decide)) (by decide) rfl rfl rfl hl.1 rfl (Nat.le_of_ble_eq_true rfl) ⟨(Nat.le_of_ble_eq_true rfl), (Nat.le_of_ble_eq_true rfl)⟩ ⟨(Nat.le_of_ble_eq_true rfl), (Nat.le_of_ble_eq_true rfl)⟩ dX0_copyFrom_104) (fun hp_2 H locs hH => ?_)
  refine lv_aload_n hM.fx.1 hM.fx.2.1 dX0_copyFrom_107 rfl (lv_at hl 0 rfl) ?_
  refine lv_aload_n hM.fx.1 hM.fx.2.1 dX0_copyFrom_108 rfl (lv_at hl 1 rfl) ?_
  refine r_getI hM.fx hM.kf hH fl_X0_40 (hLC.in hg1 (by decide)) dX0_copyFrom_109 ?_
  have hr_4 := hH.2.2.i (hLC.in hg1 (by decide)).2.2 (by decide : glg 1 4 = false)
  refine r_putI hM.fx hM.kf hH fp_X0_40 (hLC.in hg0 (by decide)) hr_4 dX0_copyFrom_112 (fun H locs hH => ?_)
  obtain ⟨M_5, eM_5, hf⟩ := gst_s hf
  rw [← eM_5] at hH
  refine lv_aload_n hM.fx.1 hM.fx.2.1 dX0_copyFrom_115 rfl (lv_at hl 0 rfl) ?_
  refine lv_aload_n hM.fx.1 hM.fx.2.1 dX0_copyFrom_116 rfl (lv_at hl 1 rfl) ?_
  refine r_getI hM.fx hM.kf hH fl_X0_43 (hLC.in hg1 (by decide)) dX0_copyFrom_117 ?_
  have hr_6 := hH.2.2.i (hLC.in hg1 (by decide)).2.2 (by decide : glg 1 5 = false)
  refine r_putI hM.fx hM.kf hH fp_X0_43 (hLC.in hg0 (by decide)) hr_6 dX0_copyFrom_120 (fun H locs hH => ?_)
  obtain ⟨M_7, eM_7, hf⟩ := gst_s hf
  rw [← eM_7] at hH
  refine lv_aload_n hM.fx.1 hM.fx.2.1 dX0_copyFrom_123 rfl (lv_at hl 0 rfl) ?_
  refine lv_aload_n hM.fx.1 hM.fx.2.1 dX0_copyFrom_124 rfl (lv_at hl 1 rfl) ?_
  refine r_getI hM.fx hM.kf hH fl_X0_46 (hLC.in hg1 (by decide)) dX0_copyFrom_125 ?_
  have hr_8 := hH.2.2.i (hLC.in hg1 (by decide)).2.2 (by decide : glg 1 6 = false)
  refine r_putI hM.fx hM.kf hH fp_X0_46 (hLC.in hg0 (by decide)) hr_8 dX0_copyFrom_128 (fun H locs hH => ?_)
  obtain ⟨M_9, eM_9, hf⟩ := gst_s hf
  rw [← eM_9] at hH
  refine lv_aload_n hM.fx.1 hM.fx.2.1 dX0_copyFrom_131 rfl (lv_at hl 0 rfl) ?_
  refine lv_aload_n hM.fx.1 hM.fx.2.1 dX0_copyFrom_132 rfl (lv_at hl 1 rfl) ?_
  refine r_getI hM.fx hM.kf hH fl_X0_49 (hLC.in hg1 (by decide)) dX0_copyFrom_133 ?_
  have hr_10 := hH.2.2.i (hLC.in hg1 (by decide)).2.2 (by decide : glg 1 7 = false)
  refine r_putI hM.fx hM.kf hH fp_X0_49 (hLC.in hg0 (by decide)) hr_10 dX0_copyFrom_136 (fun H locs hH => ?_)
  obtain ⟨M_11, eM_11, hf⟩ := gst_s hf
  rw [← eM_11] at hH
  refine lv_aload_n hM.fx.1 hM.fx.2.1 dX0_copyFrom_139 rfl (lv_at hl 0 rfl) ?_
  refine lv_aload_n hM.fx.1 hM.fx.2.1 dX0_copyFrom_140 rfl (lv_at hl 1 rfl) ?_
  refine r_getI hM.fx hM.kf hH fl_X0_52 (hLC.in hg1 (by decide)) dX0_copyFrom_141 ?_
  have hr_12 := hH.2.2.i (hLC.in hg1 (by decide)).2.2 (by decide : glg 1 8 = false)
  refine r_putI hM.fx hM.kf hH fp_X0_52 (hLC.in hg0 (by decide)) hr_12 dX0_copyFrom_144 (fun H locs hH => ?_)
  obtain ⟨M_13, eM_13, hf⟩ := gst_s hf
  rw [← eM_13] at hH
  obtain rfl := Option.some.inj hf
  exact r_vret hM hH trivial ⟨(Nat.le_of_ble_eq_true rfl), (Nat.le_of_ble_eq_true rfl)⟩ dX0_copyFrom_147
def fX0_copyFrom_43 (g : Nat → Nat)  : Nat → Nat → Nat → Int → gMem → Option gMem
  | 0, _, _, _, _ => none
  | fu + 1, a0, a1, x2, M => if 12 ≤ x2 then (fX0_copyFrom_82 g a0 a1 M) else (if 12 ≤ x2 then (fX0_copyFrom_82 g a0 a1 M) else (if (0 : Int) ≤ x2 ∧ (x2 : Int) < 12 then if (0 : Int) ≤ x2 ∧ (x2 : Int) < 12 then (fX3_copyFrom g (a0 + 2 + (39 + 2 * x2.toNat)) (a1 + 2 + (39 + 2 * x2.toNat)) M).bind fun M_6 => gst (gwi (x2 + 1)) fun x_7 => fX0_copyFrom_43 g fu a0 a1 x_7 M_6 else none else none))
set_option maxHeartbeats 4000000 in
set_option maxRecDepth 100000 in
theorem wX0_copyFrom_43 {w : gW} {n : Nat} {Rm : Nat → Nat → Nat} {g : Nat → Nat} (hLC : gLC g n Rm) {p : Program} {l : Launch} {e : Env} {s : State} {m : MethodId} {args : Array Value} {below : List Frame} {meth : Method} {c : Code} (hM : gMC w p l s m args meth c cX0_copyFrom 3 RX0 none)  : ∀ (fu : Nat), ∀ (a0 : Nat) (a1 : Nat) (x2 : Int) (M : gMem) (r : gMem) (hg0 : g a0 = 1) (hg1 : g a1 = 1) (hr2 : gRI x2) (hf : fX0_copyFrom_43 g fu a0 a1 x2 M = some r) (H : Heap) (locs : List Loc) (ls : Array Slot) (hH : gH w n Rm M s H locs) (hl : lv_has ls 3 [(0, .ref (w.1 + a0)), (1, .ref (w.1 + a1)), (2, .int (gi x2))]), W p l e { frames := 2, cells := 0, slots := 0, locals := 81 } s m args below meth c H locs 0 0 (gQ w n Rm below args s 0 0 (.inr none) r True) (F0 m 43 ls []) := by
  intro fu
  induction fu with
  | zero =>
    intro a0 a1 x2 M r hg0 hg1 hr2 hf H locs ls hH hl
    exact absurd hf (by simp [fX0_copyFrom_43])
  | succ fu ih =>
    intro a0 a1 x2 M r hg0 hg1 hr2 hf H locs ls hH hl
    unfold fX0_copyFrom_43 at hf
    refine lv_iload_n hM.fx.1 hM.fx.2.1 dX0_copyFrom_43 rfl (lv_at hl 2 rfl) ?_
    refine lv_aload_n hM.fx.1 hM.fx.2.1 dX0_copyFrom_44 rfl (lv_at hl 0 rfl) ?_
    refine r_getR hM.fx hM.kf hH hLC fl_X0_19 hg0 gch_1_1 dX0_copyFrom_45 ?_
    refine r_alen hM.fx hM.kf hH 5 rfl (hLC.in (hLC.ch hg0 (by decide) gch_1_1) (by decide)) (⟨by decide, by decide⟩ : gAr 213 5) rfl dX0_copyFrom_48 ?_
    refine r_icmp_ge (tgt := 82) hM.fx hr2 (gcR (k := 12) (by decide)) dX0_copyFrom_49 (by decide) (fun h_1 => ?_) (fun h_1 => ?_)
    · have hf := gpos h_1 hf
      exact wX0_copyFrom_82 hLC hM   _ _ _ _ hg0 hg1 hf _ _ _ hH (lv_sub hl [0, 1] rfl)
    · have hf := gneg' h_1 hf
      refine lv_iload_n hM.fx.1 hM.fx.2.1 dX0_copyFrom_52 rfl (lv_at hl 2 rfl) ?_
      refine lv_aload_n hM.fx.1 hM.fx.2.1 dX0_copyFrom_53 rfl (lv_at hl 1 rfl) ?_
      refine r_getR hM.fx hM.kf hH hLC fl_X0_19 hg1 gch_1_1 dX0_copyFrom_54 ?_
      refine r_alen hM.fx hM.kf hH 5 rfl (hLC.in (hLC.ch hg1 (by decide) gch_1_1) (by decide)) (⟨by decide, by decide⟩ : gAr 213 5) rfl dX0_copyFrom_57 ?_
      refine r_icmp_ge (tgt := 82) hM.fx hr2 (gcR (k := 12) (by decide)) dX0_copyFrom_58 (by decide) (fun h_2 => ?_) (fun h_2 => ?_)
      · have hf := gpos h_2 hf
        exact wX0_copyFrom_82 hLC hM   _ _ _ _ hg0 hg1 hf _ _ _ hH (lv_sub hl [0, 1] rfl)
      · have hf := gneg' h_2 hf
        refine lv_aload_n hM.fx.1 hM.fx.2.1 dX0_copyFrom_61 rfl (lv_at hl 0 rfl) ?_
        refine r_getR hM.fx hM.kf hH hLC fl_X0_19 hg0 gch_1_1 dX0_copyFrom_62 ?_
        refine lv_iload_n hM.fx.1 hM.fx.2.1 dX0_copyFrom_65 rfl (lv_at hl 2 rfl) ?_
        obtain ⟨g_3, hf⟩ := gif hf
        refine r_aald hM.fx hM.kf hH hLC 5 rfl (by decide) (hLC.ch hg0 (by decide) gch_1_1) (⟨by decide, by decide⟩ : gAr 213 5) hr2 g_3 (gch_213 (k := (x2).toNat) (by omega)) dX0_copyFrom_66 ?_
        refine lv_aload_n hM.fx.1 hM.fx.2.1 dX0_copyFrom_67 rfl (lv_at hl 1 rfl) ?_
        refine r_getR hM.fx hM.kf hH hLC fl_X0_19 hg1 gch_1_1 dX0_copyFrom_68 ?_
        refine lv_iload_n hM.fx.1 hM.fx.2.1 dX0_copyFrom_71 rfl (lv_at hl 2 rfl) ?_
        obtain ⟨g_4, hf⟩ := gif hf
        refine r_aald hM.fx hM.kf hH hLC 5 rfl (by decide) (hLC.ch hg1 (by decide) gch_1_1) (⟨by decide, by decide⟩ : gAr 213 5) hr2 g_4 (gch_213 (k := (x2).toNat) (by omega)) dX0_copyFrom_72 ?_
        obtain ⟨M_6, eM_6, hf⟩ := gbd hf
        refine r_go0 hH rfl (r_runV (As := [.ref (w.1 + (a1 + 2 + (39 + 2 * x2.toNat)))]) hM hH cv_X0_59 (mX3_copyFrom hLC hM.ns (hLC.ch (hLC.ch hg0 (by decide) gch_1_1) (by decide) (gch_213 (k := (x2).toNat) (by omega))) (hLC.ch (hLC.ch hg1 (by decide) gch_1_1) (by decide) (gch_213 (k := (x2).toNat) (by omega))) eM_6) (hLC.in (hLC.ch (hLC.ch hg0 (by decide) gch_1_1) (by decide) (gch_213 (k := (x2).toNat) (by omega))) (by decide)) (by decide) rfl rfl rfl hl.1 rfl (Nat.le_of_ble_eq_true rfl) ⟨(Nat.le_of_ble_eq_true rfl), (Nat.le_of_ble_eq_true rfl)⟩ ⟨(Nat.le_of_ble_eq_true rfl), (Nat.le_of_ble_eq_true rfl)⟩ dX0_copyFrom_73) (fun hp_5 H locs hH => ?_)
        obtain ⟨x_7, ex_7, hf⟩ := gst_s hf
        have hx_7 : gRI x_7 := by rw [ex_7]; exact gwi_r _
        refine r_iinc (lv' := [(2, .int (gi x_7)), (0, .ref (w.1 + a0)), (1, .ref (w.1 + a1))]) hM.fx dX0_copyFrom_76 hl (k := 2) rfl (by decide) (by rw [ex_7]; rfl) (fun ls hl => ?_)
        refine lv_goto (tgt := 43) hM.fx.1 hM.fx.2.1 dX0_copyFrom_79 (by decide) ?_
        exact ih _ _ _ _ _ hg0 hg1 hx_7 hf _ _ _ hH (lv_sub hl [1, 2, 0] rfl)
def fX0_copyFrom_41 (g : Nat → Nat)  (a0 : Nat) (a1 : Nat) (M : gMem) : Option gMem :=
  fX0_copyFrom_43 g gF a0 a1 0 M
set_option maxHeartbeats 4000000 in
set_option maxRecDepth 100000 in
theorem wX0_copyFrom_41 {w : gW} {n : Nat} {Rm : Nat → Nat → Nat} {g : Nat → Nat} (hLC : gLC g n Rm) {p : Program} {l : Launch} {e : Env} {s : State} {m : MethodId} {args : Array Value} {below : List Frame} {meth : Method} {c : Code} (hM : gMC w p l s m args meth c cX0_copyFrom 3 RX0 none)  : ∀ (a0 : Nat) (a1 : Nat) (M : gMem) (r : gMem) (hg0 : g a0 = 1) (hg1 : g a1 = 1) (hf : fX0_copyFrom_41 g a0 a1 M = some r) (H : Heap) (locs : List Loc) (ls : Array Slot) (hH : gH w n Rm M s H locs) (hl : lv_has ls 3 [(0, .ref (w.1 + a0)), (1, .ref (w.1 + a1))]), W p l e { frames := 2, cells := 0, slots := 0, locals := 81 } s m args below meth c H locs 0 0 (gQ w n Rm below args s 0 0 (.inr none) r True) (F0 m 41 ls []) := by
  intro a0 a1 M r hg0 hg1 hf H locs ls hH hl
  unfold fX0_copyFrom_41 at hf
  refine lv_iconst (v := gi (0)) hM.fx.1 hM.fx.2.1 dX0_copyFrom_41 rfl ?_
  refine lv_istore_n (lv' := [(2, .int (gi 0)), (0, .ref (w.1 + a0)), (1, .ref (w.1 + a1))]) hM.fx.1 hM.fx.2.1 dX0_copyFrom_42 rfl hl (by decide) rfl (fun ls hl => ?_)
  exact wX0_copyFrom_43 hLC hM  gF _ _ _ _ _ hg0 hg1 (gcR (k := 0) (by decide)) hf _ _ _ hH (lv_sub hl [1, 2, 0] rfl)
def fX0_copyFrom_2 (g : Nat → Nat)  : Nat → Nat → Nat → Int → gMem → Option gMem
  | 0, _, _, _, _ => none
  | fu + 1, a0, a1, x2, M => if 8 ≤ x2 then (fX0_copyFrom_41 g a0 a1 M) else (if 8 ≤ x2 then (fX0_copyFrom_41 g a0 a1 M) else (if (0 : Int) ≤ x2 ∧ (x2 : Int) < 8 then if (0 : Int) ≤ x2 ∧ (x2 : Int) < 8 then (fX4_copyFrom g (a0 + 1 + (8 + 4 * x2.toNat)) (a1 + 1 + (8 + 4 * x2.toNat)) M).bind fun M_6 => gst (gwi (x2 + 1)) fun x_7 => fX0_copyFrom_2 g fu a0 a1 x_7 M_6 else none else none))
set_option maxHeartbeats 4000000 in
set_option maxRecDepth 100000 in
theorem wX0_copyFrom_2 {w : gW} {n : Nat} {Rm : Nat → Nat → Nat} {g : Nat → Nat} (hLC : gLC g n Rm) {p : Program} {l : Launch} {e : Env} {s : State} {m : MethodId} {args : Array Value} {below : List Frame} {meth : Method} {c : Code} (hM : gMC w p l s m args meth c cX0_copyFrom 3 RX0 none)  : ∀ (fu : Nat), ∀ (a0 : Nat) (a1 : Nat) (x2 : Int) (M : gMem) (r : gMem) (hg0 : g a0 = 1) (hg1 : g a1 = 1) (hr2 : gRI x2) (hf : fX0_copyFrom_2 g fu a0 a1 x2 M = some r) (H : Heap) (locs : List Loc) (ls : Array Slot) (hH : gH w n Rm M s H locs) (hl : lv_has ls 3 [(0, .ref (w.1 + a0)), (1, .ref (w.1 + a1)), (2, .int (gi x2))]), W p l e { frames := 2, cells := 0, slots := 0, locals := 81 } s m args below meth c H locs 0 0 (gQ w n Rm below args s 0 0 (.inr none) r True) (F0 m 2 ls []) := by
  intro fu
  induction fu with
  | zero =>
    intro a0 a1 x2 M r hg0 hg1 hr2 hf H locs ls hH hl
    exact absurd hf (by simp [fX0_copyFrom_2])
  | succ fu ih =>
    intro a0 a1 x2 M r hg0 hg1 hr2 hf H locs ls hH hl
    unfold fX0_copyFrom_2 at hf
    refine lv_iload_n hM.fx.1 hM.fx.2.1 dX0_copyFrom_2 rfl (lv_at hl 2 rfl) ?_
    refine lv_aload_n hM.fx.1 hM.fx.2.1 dX0_copyFrom_3 rfl (lv_at hl 0 rfl) ?_
    refine r_getR hM.fx hM.kf hH hLC fl_X0_11 hg0 gch_1_0 dX0_copyFrom_4 ?_
    refine r_alen hM.fx hM.kf hH 4 rfl (hLC.in (hLC.ch hg0 (by decide) gch_1_0) (by decide)) (⟨by decide, by decide⟩ : gAr 148 4) rfl dX0_copyFrom_7 ?_
    refine r_icmp_ge (tgt := 41) hM.fx hr2 (gcR (k := 8) (by decide)) dX0_copyFrom_8 (by decide) (fun h_1 => ?_) (fun h_1 => ?_)
    · have hf := gpos h_1 hf
      exact wX0_copyFrom_41 hLC hM   _ _ _ _ hg0 hg1 hf _ _ _ hH (lv_sub hl [0, 1] rfl)
    · have hf := gneg' h_1 hf
      refine lv_iload_n hM.fx.1 hM.fx.2.1 dX0_copyFrom_11 rfl (lv_at hl 2 rfl) ?_
      refine lv_aload_n hM.fx.1 hM.fx.2.1 dX0_copyFrom_12 rfl (lv_at hl 1 rfl) ?_
      refine r_getR hM.fx hM.kf hH hLC fl_X0_11 hg1 gch_1_0 dX0_copyFrom_13 ?_
      refine r_alen hM.fx hM.kf hH 4 rfl (hLC.in (hLC.ch hg1 (by decide) gch_1_0) (by decide)) (⟨by decide, by decide⟩ : gAr 148 4) rfl dX0_copyFrom_16 ?_
      refine r_icmp_ge (tgt := 41) hM.fx hr2 (gcR (k := 8) (by decide)) dX0_copyFrom_17 (by decide) (fun h_2 => ?_) (fun h_2 => ?_)
      · have hf := gpos h_2 hf
        exact wX0_copyFrom_41 hLC hM   _ _ _ _ hg0 hg1 hf _ _ _ hH (lv_sub hl [0, 1] rfl)
      · have hf := gneg' h_2 hf
        refine lv_aload_n hM.fx.1 hM.fx.2.1 dX0_copyFrom_20 rfl (lv_at hl 0 rfl) ?_
        refine r_getR hM.fx hM.kf hH hLC fl_X0_11 hg0 gch_1_0 dX0_copyFrom_21 ?_
        refine lv_iload_n hM.fx.1 hM.fx.2.1 dX0_copyFrom_24 rfl (lv_at hl 2 rfl) ?_
        obtain ⟨g_3, hf⟩ := gif hf
        refine r_aald hM.fx hM.kf hH hLC 4 rfl (by decide) (hLC.ch hg0 (by decide) gch_1_0) (⟨by decide, by decide⟩ : gAr 148 4) hr2 g_3 (gch_148 (k := (x2).toNat) (by omega)) dX0_copyFrom_25 ?_
        refine lv_aload_n hM.fx.1 hM.fx.2.1 dX0_copyFrom_26 rfl (lv_at hl 1 rfl) ?_
        refine r_getR hM.fx hM.kf hH hLC fl_X0_11 hg1 gch_1_0 dX0_copyFrom_27 ?_
        refine lv_iload_n hM.fx.1 hM.fx.2.1 dX0_copyFrom_30 rfl (lv_at hl 2 rfl) ?_
        obtain ⟨g_4, hf⟩ := gif hf
        refine r_aald hM.fx hM.kf hH hLC 4 rfl (by decide) (hLC.ch hg1 (by decide) gch_1_0) (⟨by decide, by decide⟩ : gAr 148 4) hr2 g_4 (gch_148 (k := (x2).toNat) (by omega)) dX0_copyFrom_31 ?_
        obtain ⟨M_6, eM_6, hf⟩ := gbd hf
        refine r_go0 hH rfl (r_runV (As := [.ref (w.1 + (a1 + 1 + (8 + 4 * x2.toNat)))]) hM hH cv_X0_55 (mX4_copyFrom hLC hM.ns (hLC.ch (hLC.ch hg0 (by decide) gch_1_0) (by decide) (gch_148 (k := (x2).toNat) (by omega))) (hLC.ch (hLC.ch hg1 (by decide) gch_1_0) (by decide) (gch_148 (k := (x2).toNat) (by omega))) eM_6) (hLC.in (hLC.ch (hLC.ch hg0 (by decide) gch_1_0) (by decide) (gch_148 (k := (x2).toNat) (by omega))) (by decide)) (by decide) rfl rfl rfl hl.1 rfl (Nat.le_of_ble_eq_true rfl) ⟨(Nat.le_of_ble_eq_true rfl), (Nat.le_of_ble_eq_true rfl)⟩ ⟨(Nat.le_of_ble_eq_true rfl), (Nat.le_of_ble_eq_true rfl)⟩ dX0_copyFrom_32) (fun hp_5 H locs hH => ?_)
        obtain ⟨x_7, ex_7, hf⟩ := gst_s hf
        have hx_7 : gRI x_7 := by rw [ex_7]; exact gwi_r _
        refine r_iinc (lv' := [(2, .int (gi x_7)), (0, .ref (w.1 + a0)), (1, .ref (w.1 + a1))]) hM.fx dX0_copyFrom_35 hl (k := 2) rfl (by decide) (by rw [ex_7]; rfl) (fun ls hl => ?_)
        refine lv_goto (tgt := 2) hM.fx.1 hM.fx.2.1 dX0_copyFrom_38 (by decide) ?_
        exact ih _ _ _ _ _ hg0 hg1 hx_7 hf _ _ _ hH (lv_sub hl [1, 2, 0] rfl)
def fX0_copyFrom (g : Nat → Nat) (a0 : Nat) (a1 : Nat) (M : gMem) : Option gMem :=
  fX0_copyFrom_2 g gF a0 a1 0 M
set_option maxHeartbeats 4000000 in
set_option maxRecDepth 100000 in
theorem mX0_copyFrom {w : gW} {n : Nat} {Rm : Nat → Nat → Nat} {g : Nat → Nat} (hLC : gLC g n Rm) {l : Launch} (hl9 : l.stackTraces = false) {a0 : Nat} {a1 : Nat} {M : gMem} {r : gMem} (hg0 : g a0 = 1) (hg1 : g a1 = 1) (hf : fX0_copyFrom g a0 a1 M = some r) : gMT w n Rm l yX0_copyFrom cX0_copyFrom 3 none 2 81 0 0 [.ref (w.1 + a0), .ref (w.1 + a1)] M (.inr none) r True := by
  unfold fX0_copyFrom at hf
  refine gMT.of hl9 (by decide +kernel) ((Nat.le_of_ble_eq_true rfl)) ?_
  intro p e s m below meth c hM hH ls hl
  have hM : gMC w p l s m ([.ref (w.1 + a0), .ref (w.1 + a1)] : List Value).toArray meth c cX0_copyFrom 3 RX0 none := hM
  have hl : lv_has ls 3 [(0, .ref (w.1 + a0)), (1, .ref (w.1 + a1))] := hl
  refine lv_iconst (v := gi (0)) hM.fx.1 hM.fx.2.1 dX0_copyFrom_0 rfl ?_
  refine lv_istore_n (lv' := [(2, .int (gi 0)), (0, .ref (w.1 + a0)), (1, .ref (w.1 + a1))]) hM.fx.1 hM.fx.2.1 dX0_copyFrom_1 rfl hl (by decide) rfl (fun ls hl => ?_)
  exact wX0_copyFrom_2 hLC hM  gF _ _ _ _ _ hg0 hg1 (gcR (k := 0) (by decide)) hf _ _ _ hH (lv_sub hl [1, 2, 0] rfl)
def fX4_begin (g : Nat → Nat) (a0 : Nat) (x1 : Int) (M : gMem) : Option gMem :=
  gst (gup M a0 3 x1) fun M_1 => gst (gup M_1 a0 4 0) fun M_2 => gst (gup M_2 a0 5 3) fun M_3 => gst (gup M_3 a0 6 0) fun M_4 => gst (gup M_4 a0 7 0) fun M_5 => gst (gup M_5 a0 8 0) fun M_6 => gst (gup M_6 a0 9 0) fun M_7 => gst (gup M_7 a0 10 ((-1))) fun M_8 => gst (gup M_8 a0 11 0) fun M_9 => gst (gup M_9 a0 12 0) fun M_10 => gst (gup M_10 a0 13 0) fun M_11 => gst (gup M_11 a0 14 0) fun M_12 => some M_12
set_option maxHeartbeats 4000000 in
set_option maxRecDepth 100000 in
theorem mX4_begin {w : gW} {n : Nat} {Rm : Nat → Nat → Nat} {g : Nat → Nat} (hLC : gLC g n Rm) {l : Launch} (hl9 : l.stackTraces = false) {a0 : Nat} {x1 : Int} {M : gMem} {r : gMem} (hg0 : g a0 = 5) (hr1 : gRL x1) (hf : fX4_begin g a0 x1 M = some r) : gMT w n Rm l yX4_begin cX4_begin 3 none 1 60 0 0 [.ref (w.1 + a0), .long (gj x1)] M (.inr none) r True := by
  unfold fX4_begin at hf
  refine gMT.of hl9 (by decide +kernel) ((Nat.le_of_ble_eq_true rfl)) ?_
  intro p e s m below meth c hM hH ls hl
  have hM : gMC w p l s m ([.ref (w.1 + a0), .long (gj x1)] : List Value).toArray meth c cX4_begin 3 RX4 none := hM
  have hl : lv_has ls 3 [(0, .ref (w.1 + a0)), (1, .long (gj x1))] := hl
  refine lv_aload_n hM.fx.1 hM.fx.2.1 dX4_begin_0 rfl (lv_at hl 0 rfl) ?_
  refine lv_lload_n hM.fx.1 hM.fx.2.1 dX4_begin_1 rfl (lv_at hl 1 rfl) ?_
  refine r_putL hM.fx hM.kf hH fp_X4_21 (hLC.in hg0 (by decide)) hr1 dX4_begin_2 (fun H locs hH => ?_)
  obtain ⟨M_1, eM_1, hf⟩ := gst_s hf
  rw [← eM_1] at hH
  refine lv_aload_n hM.fx.1 hM.fx.2.1 dX4_begin_5 rfl (lv_at hl 0 rfl) ?_
  refine lv_iconst (v := gi (0)) hM.fx.1 hM.fx.2.1 dX4_begin_6 rfl ?_
  refine r_putI hM.fx hM.kf hH fp_X4_25 (hLC.in hg0 (by decide)) (gcR (k := 0) (by decide)) dX4_begin_7 (fun H locs hH => ?_)
  obtain ⟨M_2, eM_2, hf⟩ := gst_s hf
  rw [← eM_2] at hH
  refine lv_aload_n hM.fx.1 hM.fx.2.1 dX4_begin_10 rfl (lv_at hl 0 rfl) ?_
  refine lv_iconst (v := gi (3)) hM.fx.1 hM.fx.2.1 dX4_begin_11 rfl ?_
  refine r_putI hM.fx hM.kf hH fp_X4_29 (hLC.in hg0 (by decide)) (gcR (k := 3) (by decide)) dX4_begin_12 (fun H locs hH => ?_)
  obtain ⟨M_3, eM_3, hf⟩ := gst_s hf
  rw [← eM_3] at hH
  refine lv_aload_n hM.fx.1 hM.fx.2.1 dX4_begin_15 rfl (lv_at hl 0 rfl) ?_
  refine lv_iconst (v := gi (0)) hM.fx.1 hM.fx.2.1 dX4_begin_16 rfl ?_
  refine r_putI hM.fx hM.kf hH fp_X4_32 (hLC.in hg0 (by decide)) (gcR (k := 0) (by decide)) dX4_begin_17 (fun H locs hH => ?_)
  obtain ⟨M_4, eM_4, hf⟩ := gst_s hf
  rw [← eM_4] at hH
  refine lv_aload_n hM.fx.1 hM.fx.2.1 dX4_begin_20 rfl (lv_at hl 0 rfl) ?_
  refine lv_iconst (v := gi (0)) hM.fx.1 hM.fx.2.1 dX4_begin_21 rfl ?_
  refine r_putI hM.fx hM.kf hH fp_X4_35 (hLC.in hg0 (by decide)) (gcR (k := 0) (by decide)) dX4_begin_22 (fun H locs hH => ?_)
  obtain ⟨M_5, eM_5, hf⟩ := gst_s hf
  rw [← eM_5] at hH
  refine lv_aload_n hM.fx.1 hM.fx.2.1 dX4_begin_25 rfl (lv_at hl 0 rfl) ?_
  refine lv_iconst (v := gi (0)) hM.fx.1 hM.fx.2.1 dX4_begin_26 rfl ?_
  refine r_putI hM.fx hM.kf hH fp_X4_38 (hLC.in hg0 (by decide)) (gcR (k := 0) (by decide)) dX4_begin_27 (fun H locs hH => ?_)
  obtain ⟨M_6, eM_6, hf⟩ := gst_s hf
  rw [← eM_6] at hH
  refine lv_aload_n hM.fx.1 hM.fx.2.1 dX4_begin_30 rfl (lv_at hl 0 rfl) ?_
  refine lv_iconst (v := gi (0)) hM.fx.1 hM.fx.2.1 dX4_begin_31 rfl ?_
  refine r_putI hM.fx hM.kf hH fp_X4_41 (hLC.in hg0 (by decide)) (gcR (k := 0) (by decide)) dX4_begin_32 (fun H locs hH => ?_)
  obtain ⟨M_7, eM_7, hf⟩ := gst_s hf
  rw [← eM_7] at hH
  refine lv_aload_n hM.fx.1 hM.fx.2.1 dX4_begin_35 rfl (lv_at hl 0 rfl) ?_
  refine lv_iconst (v := gi (-1)) hM.fx.1 hM.fx.2.1 dX4_begin_36 rfl ?_
  refine r_putI hM.fx hM.kf hH fp_X4_44 (hLC.in hg0 (by decide)) (gcR (k := -1) (by decide)) dX4_begin_37 (fun H locs hH => ?_)
  obtain ⟨M_8, eM_8, hf⟩ := gst_s hf
  rw [← eM_8] at hH
  refine lv_aload_n hM.fx.1 hM.fx.2.1 dX4_begin_40 rfl (lv_at hl 0 rfl) ?_
  refine lv_iconst (v := gi (0)) hM.fx.1 hM.fx.2.1 dX4_begin_41 rfl ?_
  refine r_putI hM.fx hM.kf hH fp_X4_47 (hLC.in hg0 (by decide)) (gcR (k := 0) (by decide)) dX4_begin_42 (fun H locs hH => ?_)
  obtain ⟨M_9, eM_9, hf⟩ := gst_s hf
  rw [← eM_9] at hH
  refine lv_aload_n hM.fx.1 hM.fx.2.1 dX4_begin_45 rfl (lv_at hl 0 rfl) ?_
  refine lv_iconst (v := gi (0)) hM.fx.1 hM.fx.2.1 dX4_begin_46 rfl ?_
  refine r_putI hM.fx hM.kf hH fp_X4_50 (hLC.in hg0 (by decide)) (gcR (k := 0) (by decide)) dX4_begin_47 (fun H locs hH => ?_)
  obtain ⟨M_10, eM_10, hf⟩ := gst_s hf
  rw [← eM_10] at hH
  refine lv_aload_n hM.fx.1 hM.fx.2.1 dX4_begin_50 rfl (lv_at hl 0 rfl) ?_
  refine lv_iconst (v := gi (0)) hM.fx.1 hM.fx.2.1 dX4_begin_51 rfl ?_
  refine r_putI hM.fx hM.kf hH fp_X4_53 (hLC.in hg0 (by decide)) (gcR (k := 0) (by decide)) dX4_begin_52 (fun H locs hH => ?_)
  obtain ⟨M_11, eM_11, hf⟩ := gst_s hf
  rw [← eM_11] at hH
  refine lv_aload_n hM.fx.1 hM.fx.2.1 dX4_begin_55 rfl (lv_at hl 0 rfl) ?_
  refine lv_iconst (v := gi (0)) hM.fx.1 hM.fx.2.1 dX4_begin_56 rfl ?_
  refine r_putI hM.fx hM.kf hH fp_X4_56 (hLC.in hg0 (by decide)) (gcR (k := 0) (by decide)) dX4_begin_57 (fun H locs hH => ?_)
  obtain ⟨M_12, eM_12, hf⟩ := gst_s hf
  rw [← eM_12] at hH
  obtain rfl := Option.some.inj hf
  exact r_vret hM hH trivial ⟨(Nat.le_of_ble_eq_true rfl), (Nat.le_of_ble_eq_true rfl)⟩ dX4_begin_60
def fX0_addProc (g : Nat → Nat) (a0 : Nat) (x1 : Int) (M : gMem) : Option (Nat × gMem) :=
  if M a0 5 < 0 then (some (0, M)) else (if M a0 5 < 8 then (if (0 : Int) ≤ M a0 5 ∧ (M a0 5 : Int) < 8 then (fX4_begin g (a0 + 1 + (8 + 4 * (M a0 5).toNat)) x1 M).bind fun M_8 => gst (gup M_8 a0 5 (gwi (M_8 a0 5 + 1))) fun M_10 => some (a0 + 1 + (8 + 4 * (M a0 5).toNat), M_10) else none) else (some (0, M)))
set_option maxHeartbeats 4000000 in
set_option maxRecDepth 100000 in
theorem mX0_addProc {w : gW} {n : Nat} {Rm : Nat → Nat → Nat} {g : Nat → Nat} (hLC : gLC g n Rm) {l : Launch} (hl9 : l.stackTraces = false) {a0 : Nat} {x1 : Int} {M : gMem} {r : (Nat × gMem)} (hg0 : g a0 = 1) (hr1 : gRL x1) (hf : fX0_addProc g a0 x1 M = some r) : gMT w n Rm l yX0_addProc cX0_addProc 4 (some (.object "StackDesk$Proc")) 2 82 0 0 [.ref (w.1 + a0), .long (gj x1)] M (.inr (some (gvR w r.1))) r.2 (r.1 ≠ 0 → g r.1 = 5) := by
  unfold fX0_addProc at hf
  refine gMT.of hl9 (by decide +kernel) ((Nat.le_of_ble_eq_true rfl)) ?_
  intro p e s m below meth c hM hH ls hl
  have hM : gMC w p l s m ([.ref (w.1 + a0), .long (gj x1)] : List Value).toArray meth c cX0_addProc 4 RX0 (some (.object "StackDesk$Proc")) := hM
  have hl : lv_has ls 4 [(0, .ref (w.1 + a0)), (1, .long (gj x1))] := hl
  refine lv_aload_n hM.fx.1 hM.fx.2.1 dX0_addProc_0 rfl (lv_at hl 0 rfl) ?_
  refine r_getI hM.fx hM.kf hH fl_X0_43 (hLC.in hg0 (by decide)) dX0_addProc_1 ?_
  have hr_1 := hH.2.2.i (hLC.in hg0 (by decide)).2.2 (by decide : glg 1 5 = false)
  refine r_if_lt (tgt := 19) hM.fx hr_1 dX0_addProc_4 (by decide) (fun h_2 => ?_) (fun h_2 => ?_)
  · have hf := gpos h_2 hf
    refine r_null (w := w) hM.fx dX0_addProc_19 ?_
    obtain rfl := Option.some.inj hf
    exact r_aretV hM hH (gvR_sh _) (fun h => absurd rfl h) ⟨(Nat.le_of_ble_eq_true rfl), (Nat.le_of_ble_eq_true rfl)⟩ dX0_addProc_20
  · have hf := gneg' h_2 hf
    refine lv_aload_n hM.fx.1 hM.fx.2.1 dX0_addProc_7 rfl (lv_at hl 0 rfl) ?_
    refine r_getI hM.fx hM.kf hH fl_X0_43 (hLC.in hg0 (by decide)) dX0_addProc_8 ?_
    have hr_3 := hH.2.2.i (hLC.in hg0 (by decide)).2.2 (by decide : glg 1 5 = false)
    refine lv_aload_n hM.fx.1 hM.fx.2.1 dX0_addProc_11 rfl (lv_at hl 0 rfl) ?_
    refine r_getR hM.fx hM.kf hH hLC fl_X0_11 hg0 gch_1_0 dX0_addProc_12 ?_
    refine r_alen hM.fx hM.kf hH 4 rfl (hLC.in (hLC.ch hg0 (by decide) gch_1_0) (by decide)) (⟨by decide, by decide⟩ : gAr 148 4) rfl dX0_addProc_15 ?_
    refine r_icmp_lt (tgt := 21) hM.fx hr_3 (gcR (k := 8) (by decide)) dX0_addProc_16 (by decide) (fun h_4 => ?_) (fun h_4 => ?_)
    · have hf := gpos h_4 hf
      refine lv_aload_n hM.fx.1 hM.fx.2.1 dX0_addProc_21 rfl (lv_at hl 0 rfl) ?_
      refine r_getR hM.fx hM.kf hH hLC fl_X0_11 hg0 gch_1_0 dX0_addProc_22 ?_
      refine lv_aload_n hM.fx.1 hM.fx.2.1 dX0_addProc_25 rfl (lv_at hl 0 rfl) ?_
      refine r_getI hM.fx hM.kf hH fl_X0_43 (hLC.in hg0 (by decide)) dX0_addProc_26 ?_
      have hr_5 := hH.2.2.i (hLC.in hg0 (by decide)).2.2 (by decide : glg 1 5 = false)
      obtain ⟨g_6, hf⟩ := gif hf
      refine r_aald hM.fx hM.kf hH hLC 4 rfl (by decide) (hLC.ch hg0 (by decide) gch_1_0) (⟨by decide, by decide⟩ : gAr 148 4) hr_5 g_6 (gch_148 (k := (M a0 5).toNat) (by omega)) dX0_addProc_29 ?_
      refine lv_astore_n (lv' := [(3, .ref (w.1 + (a0 + 1 + (8 + 4 * (M a0 5).toNat)))), (0, .ref (w.1 + a0)), (1, .long (gj x1))]) hM.fx.1 hM.fx.2.1 dX0_addProc_30 rfl hl (by decide) rfl (fun ls hl => ?_)
      refine lv_aload_n hM.fx.1 hM.fx.2.1 dX0_addProc_31 rfl (lv_at hl 0 rfl) ?_
      refine lv_lload_n hM.fx.1 hM.fx.2.1 dX0_addProc_32 rfl (lv_at hl 2 rfl) ?_
      obtain ⟨M_8, eM_8, hf⟩ := gbd hf
      refine r_go0 hH rfl (r_runV (As := [.long (gj x1)]) hM hH cv_X0_71 (mX4_begin hLC hM.ns (hLC.ch (hLC.ch hg0 (by decide) gch_1_0) (by decide) (gch_148 (k := (M a0 5).toNat) (by omega))) hr1 eM_8) (hLC.in (hLC.ch (hLC.ch hg0 (by decide) gch_1_0) (by decide) (gch_148 (k := (M a0 5).toNat) (by omega))) (by decide)) (by decide) rfl rfl rfl hl.1 rfl (Nat.le_of_ble_eq_true rfl) ⟨(Nat.le_of_ble_eq_true rfl), (Nat.le_of_ble_eq_true rfl)⟩ ⟨(Nat.le_of_ble_eq_true rfl), (Nat.le_of_ble_eq_true rfl)⟩ dX0_addProc_33) (fun hp_7 H locs hH => ?_)
      refine lv_aload_n hM.fx.1 hM.fx.2.1 dX0_addProc_36 rfl (lv_at hl 1 rfl) ?_
      refine lv_dup hM.fx.1 hM.fx.2.1 dX0_addProc_37 rfl ?_
      refine r_getI hM.fx hM.kf hH fl_X0_43 (hLC.in hg0 (by decide)) dX0_addProc_38 ?_
      have hr_9 := hH.2.2.i (hLC.in hg0 (by decide)).2.2 (by decide : glg 1 5 = false)
      refine lv_iconst (v := gi (1)) hM.fx.1 hM.fx.2.1 dX0_addProc_41 rfl ?_
      refine r_iadd hM.fx dX0_addProc_42 ?_
      refine r_putI hM.fx hM.kf hH fp_X0_43 (hLC.in hg0 (by decide)) (gwi_r _) dX0_addProc_43 (fun H locs hH => ?_)
      obtain ⟨M_10, eM_10, hf⟩ := gst_s hf
      rw [← eM_10] at hH
      refine lv_aload_n hM.fx.1 hM.fx.2.1 dX0_addProc_46 rfl (lv_at hl 0 rfl) ?_
      obtain rfl := Option.some.inj hf
      rw [gvR_in (w := w) (hLC.in (hLC.ch (hLC.ch hg0 (by decide) gch_1_0) (by decide) (gch_148 (k := (M a0 5).toNat) (by omega))) (by decide))]
      exact r_aretV hM hH (gvR_sh _) (fun _ => (hLC.ch (hLC.ch hg0 (by decide) gch_1_0) (by decide) (gch_148 (k := (M a0 5).toNat) (by omega)))) ⟨(Nat.le_of_ble_eq_true rfl), (Nat.le_of_ble_eq_true rfl)⟩ dX0_addProc_47
    · have hf := gneg' h_4 hf
      refine r_null (w := w) hM.fx dX0_addProc_19 ?_
      obtain rfl := Option.some.inj hf
      exact r_aretV hM hH (gvR_sh _) (fun h => absurd rfl h) ⟨(Nat.le_of_ble_eq_true rfl), (Nat.le_of_ble_eq_true rfl)⟩ dX0_addProc_20
def fX3_begin (g : Nat → Nat) (a0 : Nat) (x1 : Int) (M : gMem) : Option gMem :=
  gst (gup M a0 1 0) fun M_1 => gst (gup M_1 a0 2 x1) fun M_2 => gst (gup M_2 a0 3 ((-1))) fun M_3 => gst (gup M_3 a0 4 ((-1))) fun M_4 => gst (gup M_4 a0 5 0) fun M_5 => some M_5
set_option maxHeartbeats 4000000 in
set_option maxRecDepth 100000 in
theorem mX3_begin {w : gW} {n : Nat} {Rm : Nat → Nat → Nat} {g : Nat → Nat} (hLC : gLC g n Rm) {l : Launch} (hl9 : l.stackTraces = false) {a0 : Nat} {x1 : Int} {M : gMem} {r : gMem} (hg0 : g a0 = 4) (hr1 : gRI x1) (hf : fX3_begin g a0 x1 M = some r) : gMT w n Rm l yX3_begin cX3_begin 2 none 1 60 0 0 [.ref (w.1 + a0), .int (gi x1)] M (.inr none) r True := by
  unfold fX3_begin at hf
  refine gMT.of hl9 (by decide +kernel) ((Nat.le_of_ble_eq_true rfl)) ?_
  intro p e s m below meth c hM hH ls hl
  have hM : gMC w p l s m ([.ref (w.1 + a0), .int (gi x1)] : List Value).toArray meth c cX3_begin 2 RX3 none := hM
  have hl : lv_has ls 2 [(0, .ref (w.1 + a0)), (1, .int (gi x1))] := hl
  refine lv_aload_n hM.fx.1 hM.fx.2.1 dX3_begin_0 rfl (lv_at hl 0 rfl) ?_
  refine lv_iconst (v := gi (0)) hM.fx.1 hM.fx.2.1 dX3_begin_1 rfl ?_
  refine r_putI hM.fx hM.kf hH fp_X3_15 (hLC.in hg0 (by decide)) (gcR (k := 0) (by decide)) dX3_begin_2 (fun H locs hH => ?_)
  obtain ⟨M_1, eM_1, hf⟩ := gst_s hf
  rw [← eM_1] at hH
  refine lv_aload_n hM.fx.1 hM.fx.2.1 dX3_begin_5 rfl (lv_at hl 0 rfl) ?_
  refine lv_iload_n hM.fx.1 hM.fx.2.1 dX3_begin_6 rfl (lv_at hl 1 rfl) ?_
  refine r_putI hM.fx hM.kf hH fp_X3_19 (hLC.in hg0 (by decide)) hr1 dX3_begin_7 (fun H locs hH => ?_)
  obtain ⟨M_2, eM_2, hf⟩ := gst_s hf
  rw [← eM_2] at hH
  refine lv_aload_n hM.fx.1 hM.fx.2.1 dX3_begin_10 rfl (lv_at hl 0 rfl) ?_
  refine lv_iconst (v := gi (-1)) hM.fx.1 hM.fx.2.1 dX3_begin_11 rfl ?_
  refine r_putI hM.fx hM.kf hH fp_X3_22 (hLC.in hg0 (by decide)) (gcR (k := -1) (by decide)) dX3_begin_12 (fun H locs hH => ?_)
  obtain ⟨M_3, eM_3, hf⟩ := gst_s hf
  rw [← eM_3] at hH
  refine lv_aload_n hM.fx.1 hM.fx.2.1 dX3_begin_15 rfl (lv_at hl 0 rfl) ?_
  refine lv_iconst (v := gi (-1)) hM.fx.1 hM.fx.2.1 dX3_begin_16 rfl ?_
  refine r_putI hM.fx hM.kf hH fp_X3_25 (hLC.in hg0 (by decide)) (gcR (k := -1) (by decide)) dX3_begin_17 (fun H locs hH => ?_)
  obtain ⟨M_4, eM_4, hf⟩ := gst_s hf
  rw [← eM_4] at hH
  refine lv_aload_n hM.fx.1 hM.fx.2.1 dX3_begin_20 rfl (lv_at hl 0 rfl) ?_
  refine lv_iconst (v := gi (0)) hM.fx.1 hM.fx.2.1 dX3_begin_21 rfl ?_
  refine r_putI hM.fx hM.kf hH fp_X3_28 (hLC.in hg0 (by decide)) (gcR (k := 0) (by decide)) dX3_begin_22 (fun H locs hH => ?_)
  obtain ⟨M_5, eM_5, hf⟩ := gst_s hf
  rw [← eM_5] at hH
  obtain rfl := Option.some.inj hf
  exact r_vret hM hH trivial ⟨(Nat.le_of_ble_eq_true rfl), (Nat.le_of_ble_eq_true rfl)⟩ dX3_begin_25
def fX0_addPile (g : Nat → Nat) (a0 : Nat) (x1 : Int) (M : gMem) : Option (Nat × gMem) :=
  if M a0 6 < 0 then (some (0, M)) else (if M a0 6 < 12 then (if (0 : Int) ≤ M a0 6 ∧ (M a0 6 : Int) < 12 then (fX3_begin g (a0 + 2 + (39 + 2 * (M a0 6).toNat)) x1 M).bind fun M_8 => gst (gup M_8 a0 6 (gwi (M_8 a0 6 + 1))) fun M_10 => some (a0 + 2 + (39 + 2 * (M a0 6).toNat), M_10) else none) else (some (0, M)))
set_option maxHeartbeats 4000000 in
set_option maxRecDepth 100000 in
theorem mX0_addPile {w : gW} {n : Nat} {Rm : Nat → Nat → Nat} {g : Nat → Nat} (hLC : gLC g n Rm) {l : Launch} (hl9 : l.stackTraces = false) {a0 : Nat} {x1 : Int} {M : gMem} {r : (Nat × gMem)} (hg0 : g a0 = 1) (hr1 : gRI x1) (hf : fX0_addPile g a0 x1 M = some r) : gMT w n Rm l yX0_addPile cX0_addPile 3 (some (.object "StackDesk$Pile")) 2 81 0 0 [.ref (w.1 + a0), .int (gi x1)] M (.inr (some (gvR w r.1))) r.2 (r.1 ≠ 0 → g r.1 = 4) := by
  unfold fX0_addPile at hf
  refine gMT.of hl9 (by decide +kernel) ((Nat.le_of_ble_eq_true rfl)) ?_
  intro p e s m below meth c hM hH ls hl
  have hM : gMC w p l s m ([.ref (w.1 + a0), .int (gi x1)] : List Value).toArray meth c cX0_addPile 3 RX0 (some (.object "StackDesk$Pile")) := hM
  have hl : lv_has ls 3 [(0, .ref (w.1 + a0)), (1, .int (gi x1))] := hl
  refine lv_aload_n hM.fx.1 hM.fx.2.1 dX0_addPile_0 rfl (lv_at hl 0 rfl) ?_
  refine r_getI hM.fx hM.kf hH fl_X0_46 (hLC.in hg0 (by decide)) dX0_addPile_1 ?_
  have hr_1 := hH.2.2.i (hLC.in hg0 (by decide)).2.2 (by decide : glg 1 6 = false)
  refine r_if_lt (tgt := 19) hM.fx hr_1 dX0_addPile_4 (by decide) (fun h_2 => ?_) (fun h_2 => ?_)
  · have hf := gpos h_2 hf
    refine r_null (w := w) hM.fx dX0_addPile_19 ?_
    obtain rfl := Option.some.inj hf
    exact r_aretV hM hH (gvR_sh _) (fun h => absurd rfl h) ⟨(Nat.le_of_ble_eq_true rfl), (Nat.le_of_ble_eq_true rfl)⟩ dX0_addPile_20
  · have hf := gneg' h_2 hf
    refine lv_aload_n hM.fx.1 hM.fx.2.1 dX0_addPile_7 rfl (lv_at hl 0 rfl) ?_
    refine r_getI hM.fx hM.kf hH fl_X0_46 (hLC.in hg0 (by decide)) dX0_addPile_8 ?_
    have hr_3 := hH.2.2.i (hLC.in hg0 (by decide)).2.2 (by decide : glg 1 6 = false)
    refine lv_aload_n hM.fx.1 hM.fx.2.1 dX0_addPile_11 rfl (lv_at hl 0 rfl) ?_
    refine r_getR hM.fx hM.kf hH hLC fl_X0_19 hg0 gch_1_1 dX0_addPile_12 ?_
    refine r_alen hM.fx hM.kf hH 5 rfl (hLC.in (hLC.ch hg0 (by decide) gch_1_1) (by decide)) (⟨by decide, by decide⟩ : gAr 213 5) rfl dX0_addPile_15 ?_
    refine r_icmp_lt (tgt := 21) hM.fx hr_3 (gcR (k := 12) (by decide)) dX0_addPile_16 (by decide) (fun h_4 => ?_) (fun h_4 => ?_)
    · have hf := gpos h_4 hf
      refine lv_aload_n hM.fx.1 hM.fx.2.1 dX0_addPile_21 rfl (lv_at hl 0 rfl) ?_
      refine r_getR hM.fx hM.kf hH hLC fl_X0_19 hg0 gch_1_1 dX0_addPile_22 ?_
      refine lv_aload_n hM.fx.1 hM.fx.2.1 dX0_addPile_25 rfl (lv_at hl 0 rfl) ?_
      refine r_getI hM.fx hM.kf hH fl_X0_46 (hLC.in hg0 (by decide)) dX0_addPile_26 ?_
      have hr_5 := hH.2.2.i (hLC.in hg0 (by decide)).2.2 (by decide : glg 1 6 = false)
      obtain ⟨g_6, hf⟩ := gif hf
      refine r_aald hM.fx hM.kf hH hLC 5 rfl (by decide) (hLC.ch hg0 (by decide) gch_1_1) (⟨by decide, by decide⟩ : gAr 213 5) hr_5 g_6 (gch_213 (k := (M a0 6).toNat) (by omega)) dX0_addPile_29 ?_
      refine lv_astore_n (lv' := [(2, .ref (w.1 + (a0 + 2 + (39 + 2 * (M a0 6).toNat)))), (0, .ref (w.1 + a0)), (1, .int (gi x1))]) hM.fx.1 hM.fx.2.1 dX0_addPile_30 rfl hl (by decide) rfl (fun ls hl => ?_)
      refine lv_aload_n hM.fx.1 hM.fx.2.1 dX0_addPile_31 rfl (lv_at hl 0 rfl) ?_
      refine lv_iload_n hM.fx.1 hM.fx.2.1 dX0_addPile_32 rfl (lv_at hl 2 rfl) ?_
      obtain ⟨M_8, eM_8, hf⟩ := gbd hf
      refine r_go0 hH rfl (r_runV (As := [.int (gi x1)]) hM hH cv_X0_75 (mX3_begin hLC hM.ns (hLC.ch (hLC.ch hg0 (by decide) gch_1_1) (by decide) (gch_213 (k := (M a0 6).toNat) (by omega))) hr1 eM_8) (hLC.in (hLC.ch (hLC.ch hg0 (by decide) gch_1_1) (by decide) (gch_213 (k := (M a0 6).toNat) (by omega))) (by decide)) (by decide) rfl rfl rfl hl.1 rfl (Nat.le_of_ble_eq_true rfl) ⟨(Nat.le_of_ble_eq_true rfl), (Nat.le_of_ble_eq_true rfl)⟩ ⟨(Nat.le_of_ble_eq_true rfl), (Nat.le_of_ble_eq_true rfl)⟩ dX0_addPile_33) (fun hp_7 H locs hH => ?_)
      refine lv_aload_n hM.fx.1 hM.fx.2.1 dX0_addPile_36 rfl (lv_at hl 1 rfl) ?_
      refine lv_dup hM.fx.1 hM.fx.2.1 dX0_addPile_37 rfl ?_
      refine r_getI hM.fx hM.kf hH fl_X0_46 (hLC.in hg0 (by decide)) dX0_addPile_38 ?_
      have hr_9 := hH.2.2.i (hLC.in hg0 (by decide)).2.2 (by decide : glg 1 6 = false)
      refine lv_iconst (v := gi (1)) hM.fx.1 hM.fx.2.1 dX0_addPile_41 rfl ?_
      refine r_iadd hM.fx dX0_addPile_42 ?_
      refine r_putI hM.fx hM.kf hH fp_X0_46 (hLC.in hg0 (by decide)) (gwi_r _) dX0_addPile_43 (fun H locs hH => ?_)
      obtain ⟨M_10, eM_10, hf⟩ := gst_s hf
      rw [← eM_10] at hH
      refine lv_aload_n hM.fx.1 hM.fx.2.1 dX0_addPile_46 rfl (lv_at hl 0 rfl) ?_
      obtain rfl := Option.some.inj hf
      rw [gvR_in (w := w) (hLC.in (hLC.ch (hLC.ch hg0 (by decide) gch_1_1) (by decide) (gch_213 (k := (M a0 6).toNat) (by omega))) (by decide))]
      exact r_aretV hM hH (gvR_sh _) (fun _ => (hLC.ch (hLC.ch hg0 (by decide) gch_1_1) (by decide) (gch_213 (k := (M a0 6).toNat) (by omega)))) ⟨(Nat.le_of_ble_eq_true rfl), (Nat.le_of_ble_eq_true rfl)⟩ dX0_addPile_47
    · have hf := gneg' h_4 hf
      refine r_null (w := w) hM.fx dX0_addPile_19 ?_
      obtain rfl := Option.some.inj hf
      exact r_aretV hM hH (gvR_sh _) (fun h => absurd rfl h) ⟨(Nat.le_of_ble_eq_true rfl), (Nat.le_of_ble_eq_true rfl)⟩ dX0_addPile_20
def fX0_procAt (g : Nat → Nat) (a0 : Nat) (x1 : Int) (M : gMem) : Option Nat :=
  if x1 < 0 then (some 0) else (if M a0 5 ≤ x1 then (some 0) else (if 8 ≤ x1 then (some 0) else (if (0 : Int) ≤ x1 ∧ (x1 : Int) < 8 then some (a0 + 1 + (8 + 4 * x1.toNat)) else none)))
set_option maxHeartbeats 4000000 in
set_option maxRecDepth 100000 in
theorem mX0_procAt {w : gW} {n : Nat} {Rm : Nat → Nat → Nat} {g : Nat → Nat} (hLC : gLC g n Rm) {l : Launch} (hl9 : l.stackTraces = false) {a0 : Nat} {x1 : Int} {M : gMem} {r : Nat} (hg0 : g a0 = 1) (hr1 : gRI x1) (hf : fX0_procAt g a0 x1 M = some r) : gMT w n Rm l yX0_procAt cX0_procAt 2 (some (.object "StackDesk$Proc")) 1 60 0 0 [.ref (w.1 + a0), .int (gi x1)] M (.inr (some (gvR w r))) M (r ≠ 0 → g r = 5) := by
  unfold fX0_procAt at hf
  refine gMT.of hl9 (by decide +kernel) ((Nat.le_of_ble_eq_true rfl)) ?_
  intro p e s m below meth c hM hH ls hl
  have hM : gMC w p l s m ([.ref (w.1 + a0), .int (gi x1)] : List Value).toArray meth c cX0_procAt 2 RX0 (some (.object "StackDesk$Proc")) := hM
  have hl : lv_has ls 2 [(0, .ref (w.1 + a0)), (1, .int (gi x1))] := hl
  refine lv_iload_n hM.fx.1 hM.fx.2.1 dX0_procAt_0 rfl (lv_at hl 1 rfl) ?_
  refine r_if_lt (tgt := 30) hM.fx hr1 dX0_procAt_1 (by decide) (fun h_1 => ?_) (fun h_1 => ?_)
  · have hf := gpos h_1 hf
    refine r_null (w := w) hM.fx dX0_procAt_30 ?_
    obtain rfl := Option.some.inj hf
    exact r_aretV hM hH (gvR_sh _) (fun h => absurd rfl h) ⟨(Nat.le_of_ble_eq_true rfl), (Nat.le_of_ble_eq_true rfl)⟩ dX0_procAt_31
  · have hf := gneg' h_1 hf
    refine lv_iload_n hM.fx.1 hM.fx.2.1 dX0_procAt_4 rfl (lv_at hl 1 rfl) ?_
    refine lv_aload_n hM.fx.1 hM.fx.2.1 dX0_procAt_5 rfl (lv_at hl 0 rfl) ?_
    refine r_getI hM.fx hM.kf hH fl_X0_43 (hLC.in hg0 (by decide)) dX0_procAt_6 ?_
    have hr_2 := hH.2.2.i (hLC.in hg0 (by decide)).2.2 (by decide : glg 1 5 = false)
    refine r_icmp_ge (tgt := 30) hM.fx hr1 hr_2 dX0_procAt_9 (by decide) (fun h_3 => ?_) (fun h_3 => ?_)
    · have hf := gpos h_3 hf
      refine r_null (w := w) hM.fx dX0_procAt_30 ?_
      obtain rfl := Option.some.inj hf
      exact r_aretV hM hH (gvR_sh _) (fun h => absurd rfl h) ⟨(Nat.le_of_ble_eq_true rfl), (Nat.le_of_ble_eq_true rfl)⟩ dX0_procAt_31
    · have hf := gneg' h_3 hf
      refine lv_iload_n hM.fx.1 hM.fx.2.1 dX0_procAt_12 rfl (lv_at hl 1 rfl) ?_
      refine lv_aload_n hM.fx.1 hM.fx.2.1 dX0_procAt_13 rfl (lv_at hl 0 rfl) ?_
      refine r_getR hM.fx hM.kf hH hLC fl_X0_11 hg0 gch_1_0 dX0_procAt_14 ?_
      refine r_alen hM.fx hM.kf hH 4 rfl (hLC.in (hLC.ch hg0 (by decide) gch_1_0) (by decide)) (⟨by decide, by decide⟩ : gAr 148 4) rfl dX0_procAt_17 ?_
      refine r_icmp_ge (tgt := 30) hM.fx hr1 (gcR (k := 8) (by decide)) dX0_procAt_18 (by decide) (fun h_4 => ?_) (fun h_4 => ?_)
      · have hf := gpos h_4 hf
        refine r_null (w := w) hM.fx dX0_procAt_30 ?_
        obtain rfl := Option.some.inj hf
        exact r_aretV hM hH (gvR_sh _) (fun h => absurd rfl h) ⟨(Nat.le_of_ble_eq_true rfl), (Nat.le_of_ble_eq_true rfl)⟩ dX0_procAt_31
      · have hf := gneg' h_4 hf
        refine lv_aload_n hM.fx.1 hM.fx.2.1 dX0_procAt_21 rfl (lv_at hl 0 rfl) ?_
        refine r_getR hM.fx hM.kf hH hLC fl_X0_11 hg0 gch_1_0 dX0_procAt_22 ?_
        refine lv_iload_n hM.fx.1 hM.fx.2.1 dX0_procAt_25 rfl (lv_at hl 1 rfl) ?_
        obtain ⟨g_5, hf⟩ := gif hf
        refine r_aald hM.fx hM.kf hH hLC 4 rfl (by decide) (hLC.ch hg0 (by decide) gch_1_0) (⟨by decide, by decide⟩ : gAr 148 4) hr1 g_5 (gch_148 (k := (x1).toNat) (by omega)) dX0_procAt_26 ?_
        refine lv_goto (tgt := 31) hM.fx.1 hM.fx.2.1 dX0_procAt_27 (by decide) ?_
        obtain rfl := Option.some.inj hf
        rw [gvR_in (w := w) (hLC.in (hLC.ch (hLC.ch hg0 (by decide) gch_1_0) (by decide) (gch_148 (k := (x1).toNat) (by omega))) (by decide))]
        exact r_aretV hM hH (gvR_sh _) (fun _ => (hLC.ch (hLC.ch hg0 (by decide) gch_1_0) (by decide) (gch_148 (k := (x1).toNat) (by omega)))) ⟨(Nat.le_of_ble_eq_true rfl), (Nat.le_of_ble_eq_true rfl)⟩ dX0_procAt_31
def fX0_pileAt (g : Nat → Nat) (a0 : Nat) (x1 : Int) (M : gMem) : Option Nat :=
  if x1 < 0 then (some 0) else (if M a0 6 ≤ x1 then (some 0) else (if 12 ≤ x1 then (some 0) else (if (0 : Int) ≤ x1 ∧ (x1 : Int) < 12 then some (a0 + 2 + (39 + 2 * x1.toNat)) else none)))
set_option maxHeartbeats 4000000 in
set_option maxRecDepth 100000 in
theorem mX0_pileAt {w : gW} {n : Nat} {Rm : Nat → Nat → Nat} {g : Nat → Nat} (hLC : gLC g n Rm) {l : Launch} (hl9 : l.stackTraces = false) {a0 : Nat} {x1 : Int} {M : gMem} {r : Nat} (hg0 : g a0 = 1) (hr1 : gRI x1) (hf : fX0_pileAt g a0 x1 M = some r) : gMT w n Rm l yX0_pileAt cX0_pileAt 2 (some (.object "StackDesk$Pile")) 1 60 0 0 [.ref (w.1 + a0), .int (gi x1)] M (.inr (some (gvR w r))) M (r ≠ 0 → g r = 4) := by
  unfold fX0_pileAt at hf
  refine gMT.of hl9 (by decide +kernel) ((Nat.le_of_ble_eq_true rfl)) ?_
  intro p e s m below meth c hM hH ls hl
  have hM : gMC w p l s m ([.ref (w.1 + a0), .int (gi x1)] : List Value).toArray meth c cX0_pileAt 2 RX0 (some (.object "StackDesk$Pile")) := hM
  have hl : lv_has ls 2 [(0, .ref (w.1 + a0)), (1, .int (gi x1))] := hl
  refine lv_iload_n hM.fx.1 hM.fx.2.1 dX0_pileAt_0 rfl (lv_at hl 1 rfl) ?_
  refine r_if_lt (tgt := 30) hM.fx hr1 dX0_pileAt_1 (by decide) (fun h_1 => ?_) (fun h_1 => ?_)
  · have hf := gpos h_1 hf
    refine r_null (w := w) hM.fx dX0_pileAt_30 ?_
    obtain rfl := Option.some.inj hf
    exact r_aretV hM hH (gvR_sh _) (fun h => absurd rfl h) ⟨(Nat.le_of_ble_eq_true rfl), (Nat.le_of_ble_eq_true rfl)⟩ dX0_pileAt_31
  · have hf := gneg' h_1 hf
    refine lv_iload_n hM.fx.1 hM.fx.2.1 dX0_pileAt_4 rfl (lv_at hl 1 rfl) ?_
    refine lv_aload_n hM.fx.1 hM.fx.2.1 dX0_pileAt_5 rfl (lv_at hl 0 rfl) ?_
    refine r_getI hM.fx hM.kf hH fl_X0_46 (hLC.in hg0 (by decide)) dX0_pileAt_6 ?_
    have hr_2 := hH.2.2.i (hLC.in hg0 (by decide)).2.2 (by decide : glg 1 6 = false)
    refine r_icmp_ge (tgt := 30) hM.fx hr1 hr_2 dX0_pileAt_9 (by decide) (fun h_3 => ?_) (fun h_3 => ?_)
    · have hf := gpos h_3 hf
      refine r_null (w := w) hM.fx dX0_pileAt_30 ?_
      obtain rfl := Option.some.inj hf
      exact r_aretV hM hH (gvR_sh _) (fun h => absurd rfl h) ⟨(Nat.le_of_ble_eq_true rfl), (Nat.le_of_ble_eq_true rfl)⟩ dX0_pileAt_31
    · have hf := gneg' h_3 hf
      refine lv_iload_n hM.fx.1 hM.fx.2.1 dX0_pileAt_12 rfl (lv_at hl 1 rfl) ?_
      refine lv_aload_n hM.fx.1 hM.fx.2.1 dX0_pileAt_13 rfl (lv_at hl 0 rfl) ?_
      refine r_getR hM.fx hM.kf hH hLC fl_X0_19 hg0 gch_1_1 dX0_pileAt_14 ?_
      refine r_alen hM.fx hM.kf hH 5 rfl (hLC.in (hLC.ch hg0 (by decide) gch_1_1) (by decide)) (⟨by decide, by decide⟩ : gAr 213 5) rfl dX0_pileAt_17 ?_
      refine r_icmp_ge (tgt := 30) hM.fx hr1 (gcR (k := 12) (by decide)) dX0_pileAt_18 (by decide) (fun h_4 => ?_) (fun h_4 => ?_)
      · have hf := gpos h_4 hf
        refine r_null (w := w) hM.fx dX0_pileAt_30 ?_
        obtain rfl := Option.some.inj hf
        exact r_aretV hM hH (gvR_sh _) (fun h => absurd rfl h) ⟨(Nat.le_of_ble_eq_true rfl), (Nat.le_of_ble_eq_true rfl)⟩ dX0_pileAt_31
      · have hf := gneg' h_4 hf
        refine lv_aload_n hM.fx.1 hM.fx.2.1 dX0_pileAt_21 rfl (lv_at hl 0 rfl) ?_
        refine r_getR hM.fx hM.kf hH hLC fl_X0_19 hg0 gch_1_1 dX0_pileAt_22 ?_
        refine lv_iload_n hM.fx.1 hM.fx.2.1 dX0_pileAt_25 rfl (lv_at hl 1 rfl) ?_
        obtain ⟨g_5, hf⟩ := gif hf
        refine r_aald hM.fx hM.kf hH hLC 5 rfl (by decide) (hLC.ch hg0 (by decide) gch_1_1) (⟨by decide, by decide⟩ : gAr 213 5) hr1 g_5 (gch_213 (k := (x1).toNat) (by omega)) dX0_pileAt_26 ?_
        refine lv_goto (tgt := 31) hM.fx.1 hM.fx.2.1 dX0_pileAt_27 (by decide) ?_
        obtain rfl := Option.some.inj hf
        rw [gvR_in (w := w) (hLC.in (hLC.ch (hLC.ch hg0 (by decide) gch_1_1) (by decide) (gch_213 (k := (x1).toNat) (by omega))) (by decide))]
        exact r_aretV hM hH (gvR_sh _) (fun _ => (hLC.ch (hLC.ch hg0 (by decide) gch_1_1) (by decide) (gch_213 (k := (x1).toNat) (by omega)))) ⟨(Nat.le_of_ble_eq_true rfl), (Nat.le_of_ble_eq_true rfl)⟩ dX0_pileAt_31
def fX0_hasSlot (g : Nat → Nat) (a0 : Nat) (x1 : Int) (M : gMem) : Option Int :=
  if x1 < 0 then (some 0) else (if M a0 4 ≤ x1 then (some 0) else (some 1))
set_option maxHeartbeats 4000000 in
set_option maxRecDepth 100000 in
theorem mX0_hasSlot {w : gW} {n : Nat} {Rm : Nat → Nat → Nat} {g : Nat → Nat} (hLC : gLC g n Rm) {l : Launch} (hl9 : l.stackTraces = false) {a0 : Nat} {x1 : Int} {M : gMem} {r : Int} (hg0 : g a0 = 1) (hr1 : gRI x1) (hf : fX0_hasSlot g a0 x1 M = some r) : gMT w n Rm l yX0_hasSlot cX0_hasSlot 2 (some .boolean) 1 60 0 0 [.ref (w.1 + a0), .int (gi x1)] M (.inr (some (.int (gi r)))) M (r = 0 ∨ r = 1) := by
  unfold fX0_hasSlot at hf
  refine gMT.of hl9 (by decide +kernel) ((Nat.le_of_ble_eq_true rfl)) ?_
  intro p e s m below meth c hM hH ls hl
  have hM : gMC w p l s m ([.ref (w.1 + a0), .int (gi x1)] : List Value).toArray meth c cX0_hasSlot 2 RX0 (some .boolean) := hM
  have hl : lv_has ls 2 [(0, .ref (w.1 + a0)), (1, .int (gi x1))] := hl
  refine lv_iload_n hM.fx.1 hM.fx.2.1 dX0_hasSlot_0 rfl (lv_at hl 1 rfl) ?_
  refine r_if_lt (tgt := 16) hM.fx hr1 dX0_hasSlot_1 (by decide) (fun h_1 => ?_) (fun h_1 => ?_)
  · have hf := gpos h_1 hf
    refine lv_iconst (v := gi (0)) hM.fx.1 hM.fx.2.1 dX0_hasSlot_16 rfl ?_
    obtain rfl := Option.some.inj hf
    exact r_zret hM hH (Or.inl rfl) (Or.inl rfl) ⟨(Nat.le_of_ble_eq_true rfl), (Nat.le_of_ble_eq_true rfl)⟩ dX0_hasSlot_17
  · have hf := gneg' h_1 hf
    refine lv_iload_n hM.fx.1 hM.fx.2.1 dX0_hasSlot_4 rfl (lv_at hl 1 rfl) ?_
    refine lv_aload_n hM.fx.1 hM.fx.2.1 dX0_hasSlot_5 rfl (lv_at hl 0 rfl) ?_
    refine r_getI hM.fx hM.kf hH fl_X0_40 (hLC.in hg0 (by decide)) dX0_hasSlot_6 ?_
    have hr_2 := hH.2.2.i (hLC.in hg0 (by decide)).2.2 (by decide : glg 1 4 = false)
    refine r_icmp_ge (tgt := 16) hM.fx hr1 hr_2 dX0_hasSlot_9 (by decide) (fun h_3 => ?_) (fun h_3 => ?_)
    · have hf := gpos h_3 hf
      refine lv_iconst (v := gi (0)) hM.fx.1 hM.fx.2.1 dX0_hasSlot_16 rfl ?_
      obtain rfl := Option.some.inj hf
      exact r_zret hM hH (Or.inl rfl) (Or.inl rfl) ⟨(Nat.le_of_ble_eq_true rfl), (Nat.le_of_ble_eq_true rfl)⟩ dX0_hasSlot_17
    · have hf := gneg' h_3 hf
      refine lv_iconst (v := gi (1)) hM.fx.1 hM.fx.2.1 dX0_hasSlot_12 rfl ?_
      refine lv_goto (tgt := 17) hM.fx.1 hM.fx.2.1 dX0_hasSlot_13 (by decide) ?_
      obtain rfl := Option.some.inj hf
      exact r_zret hM hH (Or.inr rfl) (Or.inr rfl) ⟨(Nat.le_of_ble_eq_true rfl), (Nat.le_of_ble_eq_true rfl)⟩ dX0_hasSlot_17
def fX0_lyingOn (g : Nat → Nat) (a0 : Nat) (x1 : Int) (M : gMem) : Option Int :=
  if x1 < 0 then (some (-1)) else (if 4 ≤ x1 then (some (-1)) else (if (0 : Int) ≤ x1 ∧ (x1 : Int) < 4 then some (M (a0 + 3) x1.toNat) else none))
set_option maxHeartbeats 4000000 in
set_option maxRecDepth 100000 in
theorem mX0_lyingOn {w : gW} {n : Nat} {Rm : Nat → Nat → Nat} {g : Nat → Nat} (hLC : gLC g n Rm) {l : Launch} (hl9 : l.stackTraces = false) {a0 : Nat} {x1 : Int} {M : gMem} {r : Int} (hg0 : g a0 = 1) (hr1 : gRI x1) (hf : fX0_lyingOn g a0 x1 M = some r) : gMT w n Rm l yX0_lyingOn cX0_lyingOn 2 (some .int) 1 60 0 0 [.ref (w.1 + a0), .int (gi x1)] M (.inr (some (.int (gi r)))) M (gRI r) := by
  unfold fX0_lyingOn at hf
  refine gMT.of hl9 (by decide +kernel) ((Nat.le_of_ble_eq_true rfl)) ?_
  intro p e s m below meth c hM hH ls hl
  have hM : gMC w p l s m ([.ref (w.1 + a0), .int (gi x1)] : List Value).toArray meth c cX0_lyingOn 2 RX0 (some .int) := hM
  have hl : lv_has ls 2 [(0, .ref (w.1 + a0)), (1, .int (gi x1))] := hl
  refine lv_iload_n hM.fx.1 hM.fx.2.1 dX0_lyingOn_0 rfl (lv_at hl 1 rfl) ?_
  refine r_if_lt (tgt := 22) hM.fx hr1 dX0_lyingOn_1 (by decide) (fun h_1 => ?_) (fun h_1 => ?_)
  · have hf := gpos h_1 hf
    refine lv_iconst (v := gi (-1)) hM.fx.1 hM.fx.2.1 dX0_lyingOn_22 rfl ?_
    obtain rfl := Option.some.inj hf
    exact r_iret hM hH (gcR (k := -1) (by decide)) ⟨(Nat.le_of_ble_eq_true rfl), (Nat.le_of_ble_eq_true rfl)⟩ dX0_lyingOn_23
  · have hf := gneg' h_1 hf
    refine lv_iload_n hM.fx.1 hM.fx.2.1 dX0_lyingOn_4 rfl (lv_at hl 1 rfl) ?_
    refine lv_aload_n hM.fx.1 hM.fx.2.1 dX0_lyingOn_5 rfl (lv_at hl 0 rfl) ?_
    refine r_getR hM.fx hM.kf hH hLC fl_X0_23 hg0 gch_1_2 dX0_lyingOn_6 ?_
    refine r_alen hM.fx hM.kf hH 0 rfl (hLC.in (hLC.ch hg0 (by decide) gch_1_2) (by decide)) (⟨by decide, by decide⟩ : gAr 80 0) rfl dX0_lyingOn_9 ?_
    refine r_icmp_ge (tgt := 22) hM.fx hr1 (gcR (k := 4) (by decide)) dX0_lyingOn_10 (by decide) (fun h_2 => ?_) (fun h_2 => ?_)
    · have hf := gpos h_2 hf
      refine lv_iconst (v := gi (-1)) hM.fx.1 hM.fx.2.1 dX0_lyingOn_22 rfl ?_
      obtain rfl := Option.some.inj hf
      exact r_iret hM hH (gcR (k := -1) (by decide)) ⟨(Nat.le_of_ble_eq_true rfl), (Nat.le_of_ble_eq_true rfl)⟩ dX0_lyingOn_23
    · have hf := gneg' h_2 hf
      refine lv_aload_n hM.fx.1 hM.fx.2.1 dX0_lyingOn_13 rfl (lv_at hl 0 rfl) ?_
      refine r_getR hM.fx hM.kf hH hLC fl_X0_23 hg0 gch_1_2 dX0_lyingOn_14 ?_
      refine lv_iload_n hM.fx.1 hM.fx.2.1 dX0_lyingOn_17 rfl (lv_at hl 1 rfl) ?_
      obtain ⟨g_3, hf⟩ := gif hf
      refine r_iald hM.fx hM.kf hH (hLC.in (hLC.ch hg0 (by decide) gch_1_2) (by decide)) (⟨by decide, by decide⟩ : gAr 80 0) hr1 g_3 dX0_lyingOn_18 ?_
      have hr_4 := hH.2.2.i (k := x1.toNat) (hLC.in (hLC.ch hg0 (by decide) gch_1_2) (by decide)).2.2 (glg_a (⟨by decide, by decide⟩ : gAr 80 0))
      refine lv_goto (tgt := 23) hM.fx.1 hM.fx.2.1 dX0_lyingOn_19 (by decide) ?_
      obtain rfl := Option.some.inj hf
      exact r_iret hM hH hr_4 ⟨(Nat.le_of_ble_eq_true rfl), (Nat.le_of_ble_eq_true rfl)⟩ dX0_lyingOn_23
def fX0_lowestEmptySlot_2 (g : Nat → Nat)  : Nat → Nat → Int → gMem → Option Int
  | 0, _, _, _ => none
  | fu + 1, a0, x1, M => if M a0 4 ≤ x1 then (some (-1)) else ((fX0_lyingOn g a0 x1 M).bind fun x_4 => if x_4 = (-1) then (some x1) else (gst (gwi (x1 + 1)) fun x_6 => fX0_lowestEmptySlot_2 g fu a0 x_6 M))
set_option maxHeartbeats 4000000 in
set_option maxRecDepth 100000 in
theorem wX0_lowestEmptySlot_2 {w : gW} {n : Nat} {Rm : Nat → Nat → Nat} {g : Nat → Nat} (hLC : gLC g n Rm) {p : Program} {l : Launch} {e : Env} {s : State} {m : MethodId} {args : Array Value} {below : List Frame} {meth : Method} {c : Code} (hM : gMC w p l s m args meth c cX0_lowestEmptySlot 2 RX0 (some .int))  : ∀ (fu : Nat), ∀ (a0 : Nat) (x1 : Int) (M : gMem) (r : Int) (hg0 : g a0 = 1) (hr1 : gRI x1) (hf : fX0_lowestEmptySlot_2 g fu a0 x1 M = some r) (H : Heap) (locs : List Loc) (ls : Array Slot) (hH : gH w n Rm M s H locs) (hl : lv_has ls 2 [(0, .ref (w.1 + a0)), (1, .int (gi x1))]), W p l e { frames := 2, cells := 0, slots := 0, locals := 81 } s m args below meth c H locs 0 0 (gQ w n Rm below args s 0 0 (.inr (some (.int (gi r)))) M (gRI r)) (F0 m 2 ls []) := by
  intro fu
  induction fu with
  | zero =>
    intro a0 x1 M r hg0 hr1 hf H locs ls hH hl
    exact absurd hf (by simp [fX0_lowestEmptySlot_2])
  | succ fu ih =>
    intro a0 x1 M r hg0 hr1 hf H locs ls hH hl
    unfold fX0_lowestEmptySlot_2 at hf
    refine lv_iload_n hM.fx.1 hM.fx.2.1 dX0_lowestEmptySlot_2 rfl (lv_at hl 1 rfl) ?_
    refine lv_aload_n hM.fx.1 hM.fx.2.1 dX0_lowestEmptySlot_3 rfl (lv_at hl 0 rfl) ?_
    refine r_getI hM.fx hM.kf hH fl_X0_40 (hLC.in hg0 (by decide)) dX0_lowestEmptySlot_4 ?_
    have hr_1 := hH.2.2.i (hLC.in hg0 (by decide)).2.2 (by decide : glg 1 4 = false)
    refine r_icmp_ge (tgt := 27) hM.fx hr1 hr_1 dX0_lowestEmptySlot_7 (by decide) (fun h_2 => ?_) (fun h_2 => ?_)
    · have hf := gpos h_2 hf
      refine lv_iconst (v := gi (-1)) hM.fx.1 hM.fx.2.1 dX0_lowestEmptySlot_27 rfl ?_
      obtain rfl := Option.some.inj hf
      exact r_iret hM hH (gcR (k := -1) (by decide)) ⟨(Nat.le_of_ble_eq_true rfl), (Nat.le_of_ble_eq_true rfl)⟩ dX0_lowestEmptySlot_28
    · have hf := gneg' h_2 hf
      refine lv_aload_n hM.fx.1 hM.fx.2.1 dX0_lowestEmptySlot_10 rfl (lv_at hl 0 rfl) ?_
      refine lv_iload_n hM.fx.1 hM.fx.2.1 dX0_lowestEmptySlot_11 rfl (lv_at hl 1 rfl) ?_
      obtain ⟨x_4, ex_4, hf⟩ := gbd hf
      refine r_go1 hH rfl (r_runV (As := [.int (gi x1)]) hM hH cv_X0_78 (mX0_lyingOn hLC hM.ns hg0 hr1 ex_4) (hLC.in hg0 (by decide)) (by decide) rfl rfl rfl hl.1 rfl (Nat.le_of_ble_eq_true rfl) ⟨(Nat.le_of_ble_eq_true rfl), (Nat.le_of_ble_eq_true rfl)⟩ ⟨(Nat.le_of_ble_eq_true rfl), (Nat.le_of_ble_eq_true rfl)⟩ dX0_lowestEmptySlot_12) (fun hp_3 H locs hH => ?_)
      refine lv_iconst (v := gi (-1)) hM.fx.1 hM.fx.2.1 dX0_lowestEmptySlot_15 rfl ?_
      refine r_icmp_ne (tgt := 21) hM.fx hp_3 (gcR (k := -1) (by decide)) dX0_lowestEmptySlot_16 (by decide) (fun h_5 => ?_) (fun h_5 => ?_)
      · have hf := gneg' h_5 hf
        obtain ⟨x_6, ex_6, hf⟩ := gst_s hf
        have hx_6 : gRI x_6 := by rw [ex_6]; exact gwi_r _
        refine r_iinc (lv' := [(1, .int (gi x_6)), (0, .ref (w.1 + a0))]) hM.fx dX0_lowestEmptySlot_21 hl (k := 1) rfl (by decide) (by rw [ex_6]; rfl) (fun ls hl => ?_)
        refine lv_goto (tgt := 2) hM.fx.1 hM.fx.2.1 dX0_lowestEmptySlot_24 (by decide) ?_
        exact ih _ _ _ _ hg0 hx_6 hf _ _ _ hH (lv_sub hl [1, 0] rfl)
      · have hf := gpos h_5 hf
        refine lv_iload_n hM.fx.1 hM.fx.2.1 dX0_lowestEmptySlot_19 rfl (lv_at hl 1 rfl) ?_
        obtain rfl := Option.some.inj hf
        exact r_iret hM hH hr1 ⟨(Nat.le_of_ble_eq_true rfl), (Nat.le_of_ble_eq_true rfl)⟩ dX0_lowestEmptySlot_20
def fX0_lowestEmptySlot (g : Nat → Nat) (a0 : Nat) (M : gMem) : Option Int :=
  fX0_lowestEmptySlot_2 g gF a0 0 M
set_option maxHeartbeats 4000000 in
set_option maxRecDepth 100000 in
theorem mX0_lowestEmptySlot {w : gW} {n : Nat} {Rm : Nat → Nat → Nat} {g : Nat → Nat} (hLC : gLC g n Rm) {l : Launch} (hl9 : l.stackTraces = false) {a0 : Nat} {M : gMem} {r : Int} (hg0 : g a0 = 1) (hf : fX0_lowestEmptySlot g a0 M = some r) : gMT w n Rm l yX0_lowestEmptySlot cX0_lowestEmptySlot 2 (some .int) 2 81 0 0 [.ref (w.1 + a0)] M (.inr (some (.int (gi r)))) M (gRI r) := by
  unfold fX0_lowestEmptySlot at hf
  refine gMT.of hl9 (by decide +kernel) ((Nat.le_of_ble_eq_true rfl)) ?_
  intro p e s m below meth c hM hH ls hl
  have hM : gMC w p l s m ([.ref (w.1 + a0)] : List Value).toArray meth c cX0_lowestEmptySlot 2 RX0 (some .int) := hM
  have hl : lv_has ls 2 [(0, .ref (w.1 + a0))] := hl
  refine lv_iconst (v := gi (0)) hM.fx.1 hM.fx.2.1 dX0_lowestEmptySlot_0 rfl ?_
  refine lv_istore_n (lv' := [(1, .int (gi 0)), (0, .ref (w.1 + a0))]) hM.fx.1 hM.fx.2.1 dX0_lowestEmptySlot_1 rfl hl (by decide) rfl (fun ls hl => ?_)
  exact wX0_lowestEmptySlot_2 hLC hM  gF _ _ _ _ hg0 (gcR (k := 0) (by decide)) hf _ _ _ hH (lv_sub hl [1, 0] rfl)
def fX0_setOnSlot_20 (g : Nat → Nat)  (a0 : Nat) (x1 : Int) (x2 : Int) (M : gMem) : Option gMem :=
  if x2 < 0 then (some M) else (if 12 ≤ x2 then (some M) else (if (0 : Int) ≤ x2 ∧ (x2 : Int) < 12 then gst (gup M (a0 + 2 + (39 + 2 * x2.toNat)) 3 ((-1))) fun M_4 => if (0 : Int) ≤ x2 ∧ (x2 : Int) < 12 then gst (gup M_4 (a0 + 2 + (39 + 2 * x2.toNat)) 4 x1) fun M_6 => some M_6 else none else none))
set_option maxHeartbeats 4000000 in
set_option maxRecDepth 100000 in
theorem wX0_setOnSlot_20 {w : gW} {n : Nat} {Rm : Nat → Nat → Nat} {g : Nat → Nat} (hLC : gLC g n Rm) {p : Program} {l : Launch} {e : Env} {s : State} {m : MethodId} {args : Array Value} {below : List Frame} {meth : Method} {c : Code} (hM : gMC w p l s m args meth c cX0_setOnSlot 3 RX0 none)  : ∀ (a0 : Nat) (x1 : Int) (x2 : Int) (M : gMem) (r : gMem) (hg0 : g a0 = 1) (hr1 : gRI x1) (hr2 : gRI x2) (hf : fX0_setOnSlot_20 g a0 x1 x2 M = some r) (H : Heap) (locs : List Loc) (ls : Array Slot) (hH : gH w n Rm M s H locs) (hl : lv_has ls 3 [(0, .ref (w.1 + a0)), (1, .int (gi x1)), (2, .int (gi x2))]), W p l e { frames := 1, cells := 0, slots := 0, locals := 60 } s m args below meth c H locs 0 0 (gQ w n Rm below args s 0 0 (.inr none) r True) (F0 m 20 ls []) := by
  intro a0 x1 x2 M r hg0 hr1 hr2 hf H locs ls hH hl
  unfold fX0_setOnSlot_20 at hf
  refine lv_iload_n hM.fx.1 hM.fx.2.1 dX0_setOnSlot_20 rfl (lv_at hl 2 rfl) ?_
  refine r_if_lt (tgt := 53) hM.fx hr2 dX0_setOnSlot_21 (by decide) (fun h_1 => ?_) (fun h_1 => ?_)
  · have hf := gpos h_1 hf
    obtain rfl := Option.some.inj hf
    exact r_vret hM hH trivial ⟨(Nat.le_of_ble_eq_true rfl), (Nat.le_of_ble_eq_true rfl)⟩ dX0_setOnSlot_53
  · have hf := gneg' h_1 hf
    refine lv_iload_n hM.fx.1 hM.fx.2.1 dX0_setOnSlot_24 rfl (lv_at hl 2 rfl) ?_
    refine lv_aload_n hM.fx.1 hM.fx.2.1 dX0_setOnSlot_25 rfl (lv_at hl 0 rfl) ?_
    refine r_getR hM.fx hM.kf hH hLC fl_X0_19 hg0 gch_1_1 dX0_setOnSlot_26 ?_
    refine r_alen hM.fx hM.kf hH 5 rfl (hLC.in (hLC.ch hg0 (by decide) gch_1_1) (by decide)) (⟨by decide, by decide⟩ : gAr 213 5) rfl dX0_setOnSlot_29 ?_
    refine r_icmp_ge (tgt := 53) hM.fx hr2 (gcR (k := 12) (by decide)) dX0_setOnSlot_30 (by decide) (fun h_2 => ?_) (fun h_2 => ?_)
    · have hf := gpos h_2 hf
      obtain rfl := Option.some.inj hf
      exact r_vret hM hH trivial ⟨(Nat.le_of_ble_eq_true rfl), (Nat.le_of_ble_eq_true rfl)⟩ dX0_setOnSlot_53
    · have hf := gneg' h_2 hf
      refine lv_aload_n hM.fx.1 hM.fx.2.1 dX0_setOnSlot_33 rfl (lv_at hl 0 rfl) ?_
      refine r_getR hM.fx hM.kf hH hLC fl_X0_19 hg0 gch_1_1 dX0_setOnSlot_34 ?_
      refine lv_iload_n hM.fx.1 hM.fx.2.1 dX0_setOnSlot_37 rfl (lv_at hl 2 rfl) ?_
      obtain ⟨g_3, hf⟩ := gif hf
      refine r_aald hM.fx hM.kf hH hLC 5 rfl (by decide) (hLC.ch hg0 (by decide) gch_1_1) (⟨by decide, by decide⟩ : gAr 213 5) hr2 g_3 (gch_213 (k := (x2).toNat) (by omega)) dX0_setOnSlot_38 ?_
      refine lv_iconst (v := gi (-1)) hM.fx.1 hM.fx.2.1 dX0_setOnSlot_39 rfl ?_
      refine r_putI hM.fx hM.kf hH fp_X0_82 (hLC.in (hLC.ch (hLC.ch hg0 (by decide) gch_1_1) (by decide) (gch_213 (k := (x2).toNat) (by omega))) (by decide)) (gcR (k := -1) (by decide)) dX0_setOnSlot_40 (fun H locs hH => ?_)
      obtain ⟨M_4, eM_4, hf⟩ := gst_s hf
      rw [← eM_4] at hH
      refine lv_aload_n hM.fx.1 hM.fx.2.1 dX0_setOnSlot_43 rfl (lv_at hl 0 rfl) ?_
      refine r_getR hM.fx hM.kf hH hLC fl_X0_19 hg0 gch_1_1 dX0_setOnSlot_44 ?_
      refine lv_iload_n hM.fx.1 hM.fx.2.1 dX0_setOnSlot_47 rfl (lv_at hl 2 rfl) ?_
      obtain ⟨g_5, hf⟩ := gif hf
      refine r_aald hM.fx hM.kf hH hLC 5 rfl (by decide) (hLC.ch hg0 (by decide) gch_1_1) (⟨by decide, by decide⟩ : gAr 213 5) hr2 g_5 (gch_213 (k := (x2).toNat) (by omega)) dX0_setOnSlot_48 ?_
      refine lv_iload_n hM.fx.1 hM.fx.2.1 dX0_setOnSlot_49 rfl (lv_at hl 1 rfl) ?_
      refine r_putI hM.fx hM.kf hH fp_X0_85 (hLC.in (hLC.ch (hLC.ch hg0 (by decide) gch_1_1) (by decide) (gch_213 (k := (x2).toNat) (by omega))) (by decide)) hr1 dX0_setOnSlot_50 (fun H locs hH => ?_)
      obtain ⟨M_6, eM_6, hf⟩ := gst_s hf
      rw [← eM_6] at hH
      obtain rfl := Option.some.inj hf
      exact r_vret hM hH trivial ⟨(Nat.le_of_ble_eq_true rfl), (Nat.le_of_ble_eq_true rfl)⟩ dX0_setOnSlot_53
def fX0_setOnSlot (g : Nat → Nat) (a0 : Nat) (x1 : Int) (x2 : Int) (M : gMem) : Option gMem :=
  if x1 < 0 then (fX0_setOnSlot_20 g a0 x1 x2 M) else (if 4 ≤ x1 then (fX0_setOnSlot_20 g a0 x1 x2 M) else (if (0 : Int) ≤ x1 ∧ (x1 : Int) < 4 then gst (gup M (a0 + 3) x1.toNat x2) fun M_4 => fX0_setOnSlot_20 g a0 x1 x2 M_4 else none))
set_option maxHeartbeats 4000000 in
set_option maxRecDepth 100000 in
theorem mX0_setOnSlot {w : gW} {n : Nat} {Rm : Nat → Nat → Nat} {g : Nat → Nat} (hLC : gLC g n Rm) {l : Launch} (hl9 : l.stackTraces = false) {a0 : Nat} {x1 : Int} {x2 : Int} {M : gMem} {r : gMem} (hg0 : g a0 = 1) (hr1 : gRI x1) (hr2 : gRI x2) (hf : fX0_setOnSlot g a0 x1 x2 M = some r) : gMT w n Rm l yX0_setOnSlot cX0_setOnSlot 3 none 1 60 0 0 [.ref (w.1 + a0), .int (gi x1), .int (gi x2)] M (.inr none) r True := by
  unfold fX0_setOnSlot at hf
  refine gMT.of hl9 (by decide +kernel) ((Nat.le_of_ble_eq_true rfl)) ?_
  intro p e s m below meth c hM hH ls hl
  have hM : gMC w p l s m ([.ref (w.1 + a0), .int (gi x1), .int (gi x2)] : List Value).toArray meth c cX0_setOnSlot 3 RX0 none := hM
  have hl : lv_has ls 3 [(0, .ref (w.1 + a0)), (1, .int (gi x1)), (2, .int (gi x2))] := hl
  refine lv_iload_n hM.fx.1 hM.fx.2.1 dX0_setOnSlot_0 rfl (lv_at hl 1 rfl) ?_
  refine r_if_lt (tgt := 20) hM.fx hr1 dX0_setOnSlot_1 (by decide) (fun h_1 => ?_) (fun h_1 => ?_)
  · have hf := gpos h_1 hf
    exact wX0_setOnSlot_20 hLC hM   _ _ _ _ _ hg0 hr1 hr2 hf _ _ _ hH hl
  · have hf := gneg' h_1 hf
    refine lv_iload_n hM.fx.1 hM.fx.2.1 dX0_setOnSlot_4 rfl (lv_at hl 1 rfl) ?_
    refine lv_aload_n hM.fx.1 hM.fx.2.1 dX0_setOnSlot_5 rfl (lv_at hl 0 rfl) ?_
    refine r_getR hM.fx hM.kf hH hLC fl_X0_23 hg0 gch_1_2 dX0_setOnSlot_6 ?_
    refine r_alen hM.fx hM.kf hH 0 rfl (hLC.in (hLC.ch hg0 (by decide) gch_1_2) (by decide)) (⟨by decide, by decide⟩ : gAr 80 0) rfl dX0_setOnSlot_9 ?_
    refine r_icmp_ge (tgt := 20) hM.fx hr1 (gcR (k := 4) (by decide)) dX0_setOnSlot_10 (by decide) (fun h_2 => ?_) (fun h_2 => ?_)
    · have hf := gpos h_2 hf
      exact wX0_setOnSlot_20 hLC hM   _ _ _ _ _ hg0 hr1 hr2 hf _ _ _ hH hl
    · have hf := gneg' h_2 hf
      refine lv_aload_n hM.fx.1 hM.fx.2.1 dX0_setOnSlot_13 rfl (lv_at hl 0 rfl) ?_
      refine r_getR hM.fx hM.kf hH hLC fl_X0_23 hg0 gch_1_2 dX0_setOnSlot_14 ?_
      refine lv_iload_n hM.fx.1 hM.fx.2.1 dX0_setOnSlot_17 rfl (lv_at hl 1 rfl) ?_
      refine lv_iload_n hM.fx.1 hM.fx.2.1 dX0_setOnSlot_18 rfl (lv_at hl 2 rfl) ?_
      obtain ⟨g_3, hf⟩ := gif hf
      refine r_iast hM.fx hM.kf hH (hLC.in (hLC.ch hg0 (by decide) gch_1_2) (by decide)) (⟨by decide, by decide⟩ : gAr 80 0) hr1 g_3 hr2 dX0_setOnSlot_19 (fun H locs hH => ?_)
      obtain ⟨M_4, eM_4, hf⟩ := gst_s hf
      rw [← eM_4] at hH
      exact wX0_setOnSlot_20 hLC hM   _ _ _ _ _ hg0 hr1 hr2 hf _ _ _ hH hl
def fX0_setInHand_23 (g : Nat → Nat)  (a0 : Nat) (x1 : Int) (x2 : Int) (M : gMem) : Option gMem :=
  if x2 < 0 then (some M) else (if 12 ≤ x2 then (some M) else (if (0 : Int) ≤ x2 ∧ (x2 : Int) < 12 then gst (gup M (a0 + 2 + (39 + 2 * x2.toNat)) 3 x1) fun M_4 => if (0 : Int) ≤ x2 ∧ (x2 : Int) < 12 then gst (gup M_4 (a0 + 2 + (39 + 2 * x2.toNat)) 4 ((-1))) fun M_6 => some M_6 else none else none))
set_option maxHeartbeats 4000000 in
set_option maxRecDepth 100000 in
theorem wX0_setInHand_23 {w : gW} {n : Nat} {Rm : Nat → Nat → Nat} {g : Nat → Nat} (hLC : gLC g n Rm) {p : Program} {l : Launch} {e : Env} {s : State} {m : MethodId} {args : Array Value} {below : List Frame} {meth : Method} {c : Code} (hM : gMC w p l s m args meth c cX0_setInHand 3 RX0 none)  : ∀ (a0 : Nat) (x1 : Int) (x2 : Int) (M : gMem) (r : gMem) (hg0 : g a0 = 1) (hr1 : gRI x1) (hr2 : gRI x2) (hf : fX0_setInHand_23 g a0 x1 x2 M = some r) (H : Heap) (locs : List Loc) (ls : Array Slot) (hH : gH w n Rm M s H locs) (hl : lv_has ls 3 [(0, .ref (w.1 + a0)), (1, .int (gi x1)), (2, .int (gi x2))]), W p l e { frames := 1, cells := 0, slots := 0, locals := 60 } s m args below meth c H locs 0 0 (gQ w n Rm below args s 0 0 (.inr none) r True) (F0 m 23 ls []) := by
  intro a0 x1 x2 M r hg0 hr1 hr2 hf H locs ls hH hl
  unfold fX0_setInHand_23 at hf
  refine lv_iload_n hM.fx.1 hM.fx.2.1 dX0_setInHand_23 rfl (lv_at hl 2 rfl) ?_
  refine r_if_lt (tgt := 56) hM.fx hr2 dX0_setInHand_24 (by decide) (fun h_1 => ?_) (fun h_1 => ?_)
  · have hf := gpos h_1 hf
    obtain rfl := Option.some.inj hf
    exact r_vret hM hH trivial ⟨(Nat.le_of_ble_eq_true rfl), (Nat.le_of_ble_eq_true rfl)⟩ dX0_setInHand_56
  · have hf := gneg' h_1 hf
    refine lv_iload_n hM.fx.1 hM.fx.2.1 dX0_setInHand_27 rfl (lv_at hl 2 rfl) ?_
    refine lv_aload_n hM.fx.1 hM.fx.2.1 dX0_setInHand_28 rfl (lv_at hl 0 rfl) ?_
    refine r_getR hM.fx hM.kf hH hLC fl_X0_19 hg0 gch_1_1 dX0_setInHand_29 ?_
    refine r_alen hM.fx hM.kf hH 5 rfl (hLC.in (hLC.ch hg0 (by decide) gch_1_1) (by decide)) (⟨by decide, by decide⟩ : gAr 213 5) rfl dX0_setInHand_32 ?_
    refine r_icmp_ge (tgt := 56) hM.fx hr2 (gcR (k := 12) (by decide)) dX0_setInHand_33 (by decide) (fun h_2 => ?_) (fun h_2 => ?_)
    · have hf := gpos h_2 hf
      obtain rfl := Option.some.inj hf
      exact r_vret hM hH trivial ⟨(Nat.le_of_ble_eq_true rfl), (Nat.le_of_ble_eq_true rfl)⟩ dX0_setInHand_56
    · have hf := gneg' h_2 hf
      refine lv_aload_n hM.fx.1 hM.fx.2.1 dX0_setInHand_36 rfl (lv_at hl 0 rfl) ?_
      refine r_getR hM.fx hM.kf hH hLC fl_X0_19 hg0 gch_1_1 dX0_setInHand_37 ?_
      refine lv_iload_n hM.fx.1 hM.fx.2.1 dX0_setInHand_40 rfl (lv_at hl 2 rfl) ?_
      obtain ⟨g_3, hf⟩ := gif hf
      refine r_aald hM.fx hM.kf hH hLC 5 rfl (by decide) (hLC.ch hg0 (by decide) gch_1_1) (⟨by decide, by decide⟩ : gAr 213 5) hr2 g_3 (gch_213 (k := (x2).toNat) (by omega)) dX0_setInHand_41 ?_
      refine lv_iload_n hM.fx.1 hM.fx.2.1 dX0_setInHand_42 rfl (lv_at hl 1 rfl) ?_
      refine r_putI hM.fx hM.kf hH fp_X0_82 (hLC.in (hLC.ch (hLC.ch hg0 (by decide) gch_1_1) (by decide) (gch_213 (k := (x2).toNat) (by omega))) (by decide)) hr1 dX0_setInHand_43 (fun H locs hH => ?_)
      obtain ⟨M_4, eM_4, hf⟩ := gst_s hf
      rw [← eM_4] at hH
      refine lv_aload_n hM.fx.1 hM.fx.2.1 dX0_setInHand_46 rfl (lv_at hl 0 rfl) ?_
      refine r_getR hM.fx hM.kf hH hLC fl_X0_19 hg0 gch_1_1 dX0_setInHand_47 ?_
      refine lv_iload_n hM.fx.1 hM.fx.2.1 dX0_setInHand_50 rfl (lv_at hl 2 rfl) ?_
      obtain ⟨g_5, hf⟩ := gif hf
      refine r_aald hM.fx hM.kf hH hLC 5 rfl (by decide) (hLC.ch hg0 (by decide) gch_1_1) (⟨by decide, by decide⟩ : gAr 213 5) hr2 g_5 (gch_213 (k := (x2).toNat) (by omega)) dX0_setInHand_51 ?_
      refine lv_iconst (v := gi (-1)) hM.fx.1 hM.fx.2.1 dX0_setInHand_52 rfl ?_
      refine r_putI hM.fx hM.kf hH fp_X0_85 (hLC.in (hLC.ch (hLC.ch hg0 (by decide) gch_1_1) (by decide) (gch_213 (k := (x2).toNat) (by omega))) (by decide)) (gcR (k := -1) (by decide)) dX0_setInHand_53 (fun H locs hH => ?_)
      obtain ⟨M_6, eM_6, hf⟩ := gst_s hf
      rw [← eM_6] at hH
      obtain rfl := Option.some.inj hf
      exact r_vret hM hH trivial ⟨(Nat.le_of_ble_eq_true rfl), (Nat.le_of_ble_eq_true rfl)⟩ dX0_setInHand_56
def fX0_setInHand (g : Nat → Nat) (a0 : Nat) (x1 : Int) (x2 : Int) (M : gMem) : Option gMem :=
  if x1 < 0 then (fX0_setInHand_23 g a0 x1 x2 M) else (if 8 ≤ x1 then (fX0_setInHand_23 g a0 x1 x2 M) else (if (0 : Int) ≤ x1 ∧ (x1 : Int) < 8 then gst (gup M (a0 + 1 + (8 + 4 * x1.toNat)) 10 x2) fun M_4 => fX0_setInHand_23 g a0 x1 x2 M_4 else none))
set_option maxHeartbeats 4000000 in
set_option maxRecDepth 100000 in
theorem mX0_setInHand {w : gW} {n : Nat} {Rm : Nat → Nat → Nat} {g : Nat → Nat} (hLC : gLC g n Rm) {l : Launch} (hl9 : l.stackTraces = false) {a0 : Nat} {x1 : Int} {x2 : Int} {M : gMem} {r : gMem} (hg0 : g a0 = 1) (hr1 : gRI x1) (hr2 : gRI x2) (hf : fX0_setInHand g a0 x1 x2 M = some r) : gMT w n Rm l yX0_setInHand cX0_setInHand 3 none 1 60 0 0 [.ref (w.1 + a0), .int (gi x1), .int (gi x2)] M (.inr none) r True := by
  unfold fX0_setInHand at hf
  refine gMT.of hl9 (by decide +kernel) ((Nat.le_of_ble_eq_true rfl)) ?_
  intro p e s m below meth c hM hH ls hl
  have hM : gMC w p l s m ([.ref (w.1 + a0), .int (gi x1), .int (gi x2)] : List Value).toArray meth c cX0_setInHand 3 RX0 none := hM
  have hl : lv_has ls 3 [(0, .ref (w.1 + a0)), (1, .int (gi x1)), (2, .int (gi x2))] := hl
  refine lv_iload_n hM.fx.1 hM.fx.2.1 dX0_setInHand_0 rfl (lv_at hl 1 rfl) ?_
  refine r_if_lt (tgt := 23) hM.fx hr1 dX0_setInHand_1 (by decide) (fun h_1 => ?_) (fun h_1 => ?_)
  · have hf := gpos h_1 hf
    exact wX0_setInHand_23 hLC hM   _ _ _ _ _ hg0 hr1 hr2 hf _ _ _ hH hl
  · have hf := gneg' h_1 hf
    refine lv_iload_n hM.fx.1 hM.fx.2.1 dX0_setInHand_4 rfl (lv_at hl 1 rfl) ?_
    refine lv_aload_n hM.fx.1 hM.fx.2.1 dX0_setInHand_5 rfl (lv_at hl 0 rfl) ?_
    refine r_getR hM.fx hM.kf hH hLC fl_X0_11 hg0 gch_1_0 dX0_setInHand_6 ?_
    refine r_alen hM.fx hM.kf hH 4 rfl (hLC.in (hLC.ch hg0 (by decide) gch_1_0) (by decide)) (⟨by decide, by decide⟩ : gAr 148 4) rfl dX0_setInHand_9 ?_
    refine r_icmp_ge (tgt := 23) hM.fx hr1 (gcR (k := 8) (by decide)) dX0_setInHand_10 (by decide) (fun h_2 => ?_) (fun h_2 => ?_)
    · have hf := gpos h_2 hf
      exact wX0_setInHand_23 hLC hM   _ _ _ _ _ hg0 hr1 hr2 hf _ _ _ hH hl
    · have hf := gneg' h_2 hf
      refine lv_aload_n hM.fx.1 hM.fx.2.1 dX0_setInHand_13 rfl (lv_at hl 0 rfl) ?_
      refine r_getR hM.fx hM.kf hH hLC fl_X0_11 hg0 gch_1_0 dX0_setInHand_14 ?_
      refine lv_iload_n hM.fx.1 hM.fx.2.1 dX0_setInHand_17 rfl (lv_at hl 1 rfl) ?_
      obtain ⟨g_3, hf⟩ := gif hf
      refine r_aald hM.fx hM.kf hH hLC 4 rfl (by decide) (hLC.ch hg0 (by decide) gch_1_0) (⟨by decide, by decide⟩ : gAr 148 4) hr1 g_3 (gch_148 (k := (x1).toNat) (by omega)) dX0_setInHand_18 ?_
      refine lv_iload_n hM.fx.1 hM.fx.2.1 dX0_setInHand_19 rfl (lv_at hl 2 rfl) ?_
      refine r_putI hM.fx hM.kf hH fp_X0_88 (hLC.in (hLC.ch (hLC.ch hg0 (by decide) gch_1_0) (by decide) (gch_148 (k := (x1).toNat) (by omega))) (by decide)) hr2 dX0_setInHand_20 (fun H locs hH => ?_)
      obtain ⟨M_4, eM_4, hf⟩ := gst_s hf
      rw [← eM_4] at hH
      exact wX0_setInHand_23 hLC hM   _ _ _ _ _ hg0 hr1 hr2 hf _ _ _ hH hl
def fX0_procNamed_2 (g : Nat → Nat)  : Nat → Nat → Int → Int → gMem → Option Int
  | 0, _, _, _, _ => none
  | fu + 1, a0, x1, x3, M => if M a0 5 ≤ x3 then (some (-1)) else (if 8 ≤ x3 then (some (-1)) else (if (0 : Int) ≤ x3 ∧ (x3 : Int) < 8 then if glcmp (M (a0 + 1 + (8 + 4 * x3.toNat)) 3) x1 = 0 then (some x3) else (gst (gwi (x3 + 1)) fun x_7 => fX0_procNamed_2 g fu a0 x1 x_7 M) else none))
set_option maxHeartbeats 4000000 in
set_option maxRecDepth 100000 in
theorem wX0_procNamed_2 {w : gW} {n : Nat} {Rm : Nat → Nat → Nat} {g : Nat → Nat} (hLC : gLC g n Rm) {p : Program} {l : Launch} {e : Env} {s : State} {m : MethodId} {args : Array Value} {below : List Frame} {meth : Method} {c : Code} (hM : gMC w p l s m args meth c cX0_procNamed 4 RX0 (some .int))  : ∀ (fu : Nat), ∀ (a0 : Nat) (x1 : Int) (x3 : Int) (M : gMem) (r : Int) (hg0 : g a0 = 1) (hr1 : gRL x1) (hr3 : gRI x3) (hf : fX0_procNamed_2 g fu a0 x1 x3 M = some r) (H : Heap) (locs : List Loc) (ls : Array Slot) (hH : gH w n Rm M s H locs) (hl : lv_has ls 4 [(0, .ref (w.1 + a0)), (1, .long (gj x1)), (3, .int (gi x3))]), W p l e { frames := 1, cells := 0, slots := 0, locals := 60 } s m args below meth c H locs 0 0 (gQ w n Rm below args s 0 0 (.inr (some (.int (gi r)))) M (gRI r)) (F0 m 2 ls []) := by
  intro fu
  induction fu with
  | zero =>
    intro a0 x1 x3 M r hg0 hr1 hr3 hf H locs ls hH hl
    exact absurd hf (by simp [fX0_procNamed_2])
  | succ fu ih =>
    intro a0 x1 x3 M r hg0 hr1 hr3 hf H locs ls hH hl
    unfold fX0_procNamed_2 at hf
    refine lv_iload_n hM.fx.1 hM.fx.2.1 dX0_procNamed_2 rfl (lv_at hl 2 rfl) ?_
    refine lv_aload_n hM.fx.1 hM.fx.2.1 dX0_procNamed_3 rfl (lv_at hl 0 rfl) ?_
    refine r_getI hM.fx hM.kf hH fl_X0_43 (hLC.in hg0 (by decide)) dX0_procNamed_4 ?_
    have hr_1 := hH.2.2.i (hLC.in hg0 (by decide)).2.2 (by decide : glg 1 5 = false)
    refine r_icmp_ge (tgt := 41) hM.fx hr3 hr_1 dX0_procNamed_7 (by decide) (fun h_2 => ?_) (fun h_2 => ?_)
    · have hf := gpos h_2 hf
      refine lv_iconst (v := gi (-1)) hM.fx.1 hM.fx.2.1 dX0_procNamed_41 rfl ?_
      obtain rfl := Option.some.inj hf
      exact r_iret hM hH (gcR (k := -1) (by decide)) ⟨(Nat.le_of_ble_eq_true rfl), (Nat.le_of_ble_eq_true rfl)⟩ dX0_procNamed_42
    · have hf := gneg' h_2 hf
      refine lv_iload_n hM.fx.1 hM.fx.2.1 dX0_procNamed_10 rfl (lv_at hl 2 rfl) ?_
      refine lv_aload_n hM.fx.1 hM.fx.2.1 dX0_procNamed_11 rfl (lv_at hl 0 rfl) ?_
      refine r_getR hM.fx hM.kf hH hLC fl_X0_11 hg0 gch_1_0 dX0_procNamed_12 ?_
      refine r_alen hM.fx hM.kf hH 4 rfl (hLC.in (hLC.ch hg0 (by decide) gch_1_0) (by decide)) (⟨by decide, by decide⟩ : gAr 148 4) rfl dX0_procNamed_15 ?_
      refine r_icmp_ge (tgt := 41) hM.fx hr3 (gcR (k := 8) (by decide)) dX0_procNamed_16 (by decide) (fun h_3 => ?_) (fun h_3 => ?_)
      · have hf := gpos h_3 hf
        refine lv_iconst (v := gi (-1)) hM.fx.1 hM.fx.2.1 dX0_procNamed_41 rfl ?_
        obtain rfl := Option.some.inj hf
        exact r_iret hM hH (gcR (k := -1) (by decide)) ⟨(Nat.le_of_ble_eq_true rfl), (Nat.le_of_ble_eq_true rfl)⟩ dX0_procNamed_42
      · have hf := gneg' h_3 hf
        refine lv_aload_n hM.fx.1 hM.fx.2.1 dX0_procNamed_19 rfl (lv_at hl 0 rfl) ?_
        refine r_getR hM.fx hM.kf hH hLC fl_X0_11 hg0 gch_1_0 dX0_procNamed_20 ?_
        refine lv_iload_n hM.fx.1 hM.fx.2.1 dX0_procNamed_23 rfl (lv_at hl 2 rfl) ?_
        obtain ⟨g_4, hf⟩ := gif hf
        refine r_aald hM.fx hM.kf hH hLC 4 rfl (by decide) (hLC.ch hg0 (by decide) gch_1_0) (⟨by decide, by decide⟩ : gAr 148 4) hr3 g_4 (gch_148 (k := (x3).toNat) (by omega)) dX0_procNamed_24 ?_
        refine r_getL hM.fx hM.kf hH fl_X0_91 (hLC.in (hLC.ch (hLC.ch hg0 (by decide) gch_1_0) (by decide) (gch_148 (k := (x3).toNat) (by omega))) (by decide)) dX0_procNamed_25 ?_
        have hr_5 := hH.2.2.l (hLC.in (hLC.ch (hLC.ch hg0 (by decide) gch_1_0) (by decide) (gch_148 (k := (x3).toNat) (by omega))) (by decide)).2.2 (by decide : glg 5 3 = true)
        refine lv_lload_n hM.fx.1 hM.fx.2.1 dX0_procNamed_28 rfl (lv_at hl 1 rfl) ?_
        refine r_lcmp hM.fx hr_5 hr1 dX0_procNamed_29 ?_
        refine r_if_ne (tgt := 35) hM.fx (glcmp_r _ _) dX0_procNamed_30 (by decide) (fun h_6 => ?_) (fun h_6 => ?_)
        · have hf := gneg' h_6 hf
          obtain ⟨x_7, ex_7, hf⟩ := gst_s hf
          have hx_7 : gRI x_7 := by rw [ex_7]; exact gwi_r _
          refine r_iinc (lv' := [(3, .int (gi x_7)), (0, .ref (w.1 + a0)), (1, .long (gj x1))]) hM.fx dX0_procNamed_35 hl (k := 2) rfl (by decide) (by rw [ex_7]; rfl) (fun ls hl => ?_)
          refine lv_goto (tgt := 2) hM.fx.1 hM.fx.2.1 dX0_procNamed_38 (by decide) ?_
          exact ih _ _ _ _ _ hg0 hr1 hx_7 hf _ _ _ hH (lv_sub hl [1, 2, 0] rfl)
        · have hf := gpos h_6 hf
          refine lv_iload_n hM.fx.1 hM.fx.2.1 dX0_procNamed_33 rfl (lv_at hl 2 rfl) ?_
          obtain rfl := Option.some.inj hf
          exact r_iret hM hH hr3 ⟨(Nat.le_of_ble_eq_true rfl), (Nat.le_of_ble_eq_true rfl)⟩ dX0_procNamed_34
def fX0_procNamed (g : Nat → Nat) (a0 : Nat) (x1 : Int) (M : gMem) : Option Int :=
  fX0_procNamed_2 g gF a0 x1 0 M
set_option maxHeartbeats 4000000 in
set_option maxRecDepth 100000 in
theorem mX0_procNamed {w : gW} {n : Nat} {Rm : Nat → Nat → Nat} {g : Nat → Nat} (hLC : gLC g n Rm) {l : Launch} (hl9 : l.stackTraces = false) {a0 : Nat} {x1 : Int} {M : gMem} {r : Int} (hg0 : g a0 = 1) (hr1 : gRL x1) (hf : fX0_procNamed g a0 x1 M = some r) : gMT w n Rm l yX0_procNamed cX0_procNamed 4 (some .int) 1 60 0 0 [.ref (w.1 + a0), .long (gj x1)] M (.inr (some (.int (gi r)))) M (gRI r) := by
  unfold fX0_procNamed at hf
  refine gMT.of hl9 (by decide +kernel) ((Nat.le_of_ble_eq_true rfl)) ?_
  intro p e s m below meth c hM hH ls hl
  have hM : gMC w p l s m ([.ref (w.1 + a0), .long (gj x1)] : List Value).toArray meth c cX0_procNamed 4 RX0 (some .int) := hM
  have hl : lv_has ls 4 [(0, .ref (w.1 + a0)), (1, .long (gj x1))] := hl
  refine lv_iconst (v := gi (0)) hM.fx.1 hM.fx.2.1 dX0_procNamed_0 rfl ?_
  refine lv_istore_n (lv' := [(3, .int (gi 0)), (0, .ref (w.1 + a0)), (1, .long (gj x1))]) hM.fx.1 hM.fx.2.1 dX0_procNamed_1 rfl hl (by decide) rfl (fun ls hl => ?_)
  exact wX0_procNamed_2 hLC hM  gF _ _ _ _ _ hg0 hr1 (gcR (k := 0) (by decide)) hf _ _ _ hH (lv_sub hl [1, 2, 0] rfl)
def fX0_countInState_37 (g : Nat → Nat) (k4 : Nat → Int → Int → Int → gMem → Option Int) (a0 : Nat) (x1 : Int) (x2 : Int) (x3 : Int) (M : gMem) : Option Int :=
  gst (gwi (x3 + 1)) fun x_1 => k4 a0 x1 x2 x_1 M
set_option maxHeartbeats 4000000 in
set_option maxRecDepth 100000 in
theorem wX0_countInState_37 {w : gW} {n : Nat} {Rm : Nat → Nat → Nat} {g : Nat → Nat} (hLC : gLC g n Rm) {p : Program} {l : Launch} {e : Env} {s : State} {m : MethodId} {args : Array Value} {below : List Frame} {meth : Method} {c : Code} (hM : gMC w p l s m args meth c cX0_countInState 4 RX0 (some .int)) (k4 : Nat → Int → Int → Int → gMem → Option Int) (hk4 : ∀ (a0 : Nat) (x1 : Int) (x2 : Int) (x3 : Int) (M : gMem) (r : Int) (hg0 : g a0 = 1) (hr1 : gRI x1) (hr2 : gRI x2) (hr3 : gRI x3) (hf : k4 a0 x1 x2 x3 M = some r) (H : Heap) (locs : List Loc) (ls : Array Slot) (hH : gH w n Rm M s H locs) (hl : lv_has ls 4 [(0, .ref (w.1 + a0)), (1, .int (gi x1)), (2, .int (gi x2)), (3, .int (gi x3))]), W p l e { frames := 1, cells := 0, slots := 0, locals := 60 } s m args below meth c H locs 0 0 (gQ w n Rm below args s 0 0 (.inr (some (.int (gi r)))) M (gRI r)) (F0 m 4 ls [])) : ∀ (a0 : Nat) (x1 : Int) (x2 : Int) (x3 : Int) (M : gMem) (r : Int) (hg0 : g a0 = 1) (hr1 : gRI x1) (hr2 : gRI x2) (hr3 : gRI x3) (hf : fX0_countInState_37 g k4 a0 x1 x2 x3 M = some r) (H : Heap) (locs : List Loc) (ls : Array Slot) (hH : gH w n Rm M s H locs) (hl : lv_has ls 4 [(0, .ref (w.1 + a0)), (1, .int (gi x1)), (2, .int (gi x2)), (3, .int (gi x3))]), W p l e { frames := 1, cells := 0, slots := 0, locals := 60 } s m args below meth c H locs 0 0 (gQ w n Rm below args s 0 0 (.inr (some (.int (gi r)))) M (gRI r)) (F0 m 37 ls []) := by
  intro a0 x1 x2 x3 M r hg0 hr1 hr2 hr3 hf H locs ls hH hl
  unfold fX0_countInState_37 at hf
  obtain ⟨x_1, ex_1, hf⟩ := gst_s hf
  have hx_1 : gRI x_1 := by rw [ex_1]; exact gwi_r _
  refine r_iinc (lv' := [(3, .int (gi x_1)), (0, .ref (w.1 + a0)), (1, .int (gi x1)), (2, .int (gi x2))]) hM.fx dX0_countInState_37 hl (k := 3) rfl (by decide) (by rw [ex_1]; rfl) (fun ls hl => ?_)
  refine lv_goto (tgt := 4) hM.fx.1 hM.fx.2.1 dX0_countInState_40 (by decide) ?_
  exact hk4 _ _ _ _ _ _ hg0 hr1 hr2 hx_1 hf _ _ _ hH (lv_sub hl [1, 2, 3, 0] rfl)
def fX0_countInState_4 (g : Nat → Nat)  : Nat → Nat → Int → Int → Int → gMem → Option Int
  | 0, _, _, _, _, _ => none
  | fu + 1, a0, x1, x2, x3, M => if M a0 5 ≤ x3 then (some x2) else (if 8 ≤ x3 then (some x2) else (if (0 : Int) ≤ x3 ∧ (x3 : Int) < 8 then if M (a0 + 1 + (8 + 4 * x3.toNat)) 8 = x1 then (gst (gwi (x2 + 1)) fun x_7 => fX0_countInState_37 g (fX0_countInState_4 g fu) a0 x1 x_7 x3 M) else (fX0_countInState_37 g (fX0_countInState_4 g fu) a0 x1 x2 x3 M) else none))
set_option maxHeartbeats 4000000 in
set_option maxRecDepth 100000 in
theorem wX0_countInState_4 {w : gW} {n : Nat} {Rm : Nat → Nat → Nat} {g : Nat → Nat} (hLC : gLC g n Rm) {p : Program} {l : Launch} {e : Env} {s : State} {m : MethodId} {args : Array Value} {below : List Frame} {meth : Method} {c : Code} (hM : gMC w p l s m args meth c cX0_countInState 4 RX0 (some .int))  : ∀ (fu : Nat), ∀ (a0 : Nat) (x1 : Int) (x2 : Int) (x3 : Int) (M : gMem) (r : Int) (hg0 : g a0 = 1) (hr1 : gRI x1) (hr2 : gRI x2) (hr3 : gRI x3) (hf : fX0_countInState_4 g fu a0 x1 x2 x3 M = some r) (H : Heap) (locs : List Loc) (ls : Array Slot) (hH : gH w n Rm M s H locs) (hl : lv_has ls 4 [(0, .ref (w.1 + a0)), (1, .int (gi x1)), (2, .int (gi x2)), (3, .int (gi x3))]), W p l e { frames := 1, cells := 0, slots := 0, locals := 60 } s m args below meth c H locs 0 0 (gQ w n Rm below args s 0 0 (.inr (some (.int (gi r)))) M (gRI r)) (F0 m 4 ls []) := by
  intro fu
  induction fu with
  | zero =>
    intro a0 x1 x2 x3 M r hg0 hr1 hr2 hr3 hf H locs ls hH hl
    exact absurd hf (by simp [fX0_countInState_4])
  | succ fu ih =>
    intro a0 x1 x2 x3 M r hg0 hr1 hr2 hr3 hf H locs ls hH hl
    unfold fX0_countInState_4 at hf
    refine lv_iload_n hM.fx.1 hM.fx.2.1 dX0_countInState_4 rfl (lv_at hl 3 rfl) ?_
    refine lv_aload_n hM.fx.1 hM.fx.2.1 dX0_countInState_5 rfl (lv_at hl 0 rfl) ?_
    refine r_getI hM.fx hM.kf hH fl_X0_43 (hLC.in hg0 (by decide)) dX0_countInState_6 ?_
    have hr_1 := hH.2.2.i (hLC.in hg0 (by decide)).2.2 (by decide : glg 1 5 = false)
    refine r_icmp_ge (tgt := 43) hM.fx hr3 hr_1 dX0_countInState_9 (by decide) (fun h_2 => ?_) (fun h_2 => ?_)
    · have hf := gpos h_2 hf
      refine lv_iload_n hM.fx.1 hM.fx.2.1 dX0_countInState_43 rfl (lv_at hl 2 rfl) ?_
      obtain rfl := Option.some.inj hf
      exact r_iret hM hH hr2 ⟨(Nat.le_of_ble_eq_true rfl), (Nat.le_of_ble_eq_true rfl)⟩ dX0_countInState_44
    · have hf := gneg' h_2 hf
      refine lv_iload_n hM.fx.1 hM.fx.2.1 dX0_countInState_12 rfl (lv_at hl 3 rfl) ?_
      refine lv_aload_n hM.fx.1 hM.fx.2.1 dX0_countInState_13 rfl (lv_at hl 0 rfl) ?_
      refine r_getR hM.fx hM.kf hH hLC fl_X0_11 hg0 gch_1_0 dX0_countInState_14 ?_
      refine r_alen hM.fx hM.kf hH 4 rfl (hLC.in (hLC.ch hg0 (by decide) gch_1_0) (by decide)) (⟨by decide, by decide⟩ : gAr 148 4) rfl dX0_countInState_17 ?_
      refine r_icmp_ge (tgt := 43) hM.fx hr3 (gcR (k := 8) (by decide)) dX0_countInState_18 (by decide) (fun h_3 => ?_) (fun h_3 => ?_)
      · have hf := gpos h_3 hf
        refine lv_iload_n hM.fx.1 hM.fx.2.1 dX0_countInState_43 rfl (lv_at hl 2 rfl) ?_
        obtain rfl := Option.some.inj hf
        exact r_iret hM hH hr2 ⟨(Nat.le_of_ble_eq_true rfl), (Nat.le_of_ble_eq_true rfl)⟩ dX0_countInState_44
      · have hf := gneg' h_3 hf
        refine lv_aload_n hM.fx.1 hM.fx.2.1 dX0_countInState_21 rfl (lv_at hl 0 rfl) ?_
        refine r_getR hM.fx hM.kf hH hLC fl_X0_11 hg0 gch_1_0 dX0_countInState_22 ?_
        refine lv_iload_n hM.fx.1 hM.fx.2.1 dX0_countInState_25 rfl (lv_at hl 3 rfl) ?_
        obtain ⟨g_4, hf⟩ := gif hf
        refine r_aald hM.fx hM.kf hH hLC 4 rfl (by decide) (hLC.ch hg0 (by decide) gch_1_0) (⟨by decide, by decide⟩ : gAr 148 4) hr3 g_4 (gch_148 (k := (x3).toNat) (by omega)) dX0_countInState_26 ?_
        refine r_getI hM.fx hM.kf hH fl_X0_95 (hLC.in (hLC.ch (hLC.ch hg0 (by decide) gch_1_0) (by decide) (gch_148 (k := (x3).toNat) (by omega))) (by decide)) dX0_countInState_27 ?_
        have hr_5 := hH.2.2.i (hLC.in (hLC.ch (hLC.ch hg0 (by decide) gch_1_0) (by decide) (gch_148 (k := (x3).toNat) (by omega))) (by decide)).2.2 (by decide : glg 5 8 = false)
        refine lv_iload_n hM.fx.1 hM.fx.2.1 dX0_countInState_30 rfl (lv_at hl 1 rfl) ?_
        refine r_icmp_ne (tgt := 37) hM.fx hr_5 hr1 dX0_countInState_31 (by decide) (fun h_6 => ?_) (fun h_6 => ?_)
        · have hf := gneg' h_6 hf
          exact wX0_countInState_37 hLC hM (fX0_countInState_4 g fu) ih  _ _ _ _ _ _ hg0 hr1 hr2 hr3 hf _ _ _ hH hl
        · have hf := gpos h_6 hf
          obtain ⟨x_7, ex_7, hf⟩ := gst_s hf
          have hx_7 : gRI x_7 := by rw [ex_7]; exact gwi_r _
          refine r_iinc (lv' := [(2, .int (gi x_7)), (0, .ref (w.1 + a0)), (1, .int (gi x1)), (3, .int (gi x3))]) hM.fx dX0_countInState_34 hl (k := 2) rfl (by decide) (by rw [ex_7]; rfl) (fun ls hl => ?_)
          exact wX0_countInState_37 hLC hM (fX0_countInState_4 g fu) ih  _ _ _ _ _ _ hg0 hr1 hx_7 hr3 hf _ _ _ hH (lv_sub hl [1, 2, 0, 3] rfl)
def fX0_countInState (g : Nat → Nat) (a0 : Nat) (x1 : Int) (M : gMem) : Option Int :=
  fX0_countInState_4 g gF a0 x1 0 0 M
set_option maxHeartbeats 4000000 in
set_option maxRecDepth 100000 in
theorem mX0_countInState {w : gW} {n : Nat} {Rm : Nat → Nat → Nat} {g : Nat → Nat} (hLC : gLC g n Rm) {l : Launch} (hl9 : l.stackTraces = false) {a0 : Nat} {x1 : Int} {M : gMem} {r : Int} (hg0 : g a0 = 1) (hr1 : gRI x1) (hf : fX0_countInState g a0 x1 M = some r) : gMT w n Rm l yX0_countInState cX0_countInState 4 (some .int) 1 60 0 0 [.ref (w.1 + a0), .int (gi x1)] M (.inr (some (.int (gi r)))) M (gRI r) := by
  unfold fX0_countInState at hf
  refine gMT.of hl9 (by decide +kernel) ((Nat.le_of_ble_eq_true rfl)) ?_
  intro p e s m below meth c hM hH ls hl
  have hM : gMC w p l s m ([.ref (w.1 + a0), .int (gi x1)] : List Value).toArray meth c cX0_countInState 4 RX0 (some .int) := hM
  have hl : lv_has ls 4 [(0, .ref (w.1 + a0)), (1, .int (gi x1))] := hl
  refine lv_iconst (v := gi (0)) hM.fx.1 hM.fx.2.1 dX0_countInState_0 rfl ?_
  refine lv_istore_n (lv' := [(2, .int (gi 0)), (0, .ref (w.1 + a0)), (1, .int (gi x1))]) hM.fx.1 hM.fx.2.1 dX0_countInState_1 rfl hl (by decide) rfl (fun ls hl => ?_)
  refine lv_iconst (v := gi (0)) hM.fx.1 hM.fx.2.1 dX0_countInState_2 rfl ?_
  refine lv_istore_n (lv' := [(3, .int (gi 0)), (2, .int (gi 0)), (0, .ref (w.1 + a0)), (1, .int (gi x1))]) hM.fx.1 hM.fx.2.1 dX0_countInState_3 rfl hl (by decide) rfl (fun ls hl => ?_)
  exact wX0_countInState_4 hLC hM  gF _ _ _ _ _ _ hg0 hr1 (gcR (k := 0) (by decide)) (gcR (k := 0) (by decide)) hf _ _ _ hH (lv_sub hl [2, 3, 1, 0] rfl)
def fX0_allSteps_4 (g : Nat → Nat)  : Nat → Nat → Int → Int → gMem → Option Int
  | 0, _, _, _, _ => none
  | fu + 1, a0, x1, x2, M => if M a0 5 ≤ x2 then (some x1) else (if 8 ≤ x2 then (some x1) else (if (0 : Int) ≤ x2 ∧ (x2 : Int) < 8 then gst (gwi (x1 + M (a0 + 1 + (8 + 4 * x2.toNat)) 12)) fun x_6 => gst (gwi (x2 + 1)) fun x_7 => fX0_allSteps_4 g fu a0 x_6 x_7 M else none))
set_option maxHeartbeats 4000000 in
set_option maxRecDepth 100000 in
theorem wX0_allSteps_4 {w : gW} {n : Nat} {Rm : Nat → Nat → Nat} {g : Nat → Nat} (hLC : gLC g n Rm) {p : Program} {l : Launch} {e : Env} {s : State} {m : MethodId} {args : Array Value} {below : List Frame} {meth : Method} {c : Code} (hM : gMC w p l s m args meth c cX0_allSteps 3 RX0 (some .int))  : ∀ (fu : Nat), ∀ (a0 : Nat) (x1 : Int) (x2 : Int) (M : gMem) (r : Int) (hg0 : g a0 = 1) (hr1 : gRI x1) (hr2 : gRI x2) (hf : fX0_allSteps_4 g fu a0 x1 x2 M = some r) (H : Heap) (locs : List Loc) (ls : Array Slot) (hH : gH w n Rm M s H locs) (hl : lv_has ls 3 [(0, .ref (w.1 + a0)), (1, .int (gi x1)), (2, .int (gi x2))]), W p l e { frames := 1, cells := 0, slots := 0, locals := 60 } s m args below meth c H locs 0 0 (gQ w n Rm below args s 0 0 (.inr (some (.int (gi r)))) M (gRI r)) (F0 m 4 ls []) := by
  intro fu
  induction fu with
  | zero =>
    intro a0 x1 x2 M r hg0 hr1 hr2 hf H locs ls hH hl
    exact absurd hf (by simp [fX0_allSteps_4])
  | succ fu ih =>
    intro a0 x1 x2 M r hg0 hr1 hr2 hf H locs ls hH hl
    unfold fX0_allSteps_4 at hf
    refine lv_iload_n hM.fx.1 hM.fx.2.1 dX0_allSteps_4 rfl (lv_at hl 2 rfl) ?_
    refine lv_aload_n hM.fx.1 hM.fx.2.1 dX0_allSteps_5 rfl (lv_at hl 0 rfl) ?_
    refine r_getI hM.fx hM.kf hH fl_X0_43 (hLC.in hg0 (by decide)) dX0_allSteps_6 ?_
    have hr_1 := hH.2.2.i (hLC.in hg0 (by decide)).2.2 (by decide : glg 1 5 = false)
    refine r_icmp_ge (tgt := 39) hM.fx hr2 hr_1 dX0_allSteps_9 (by decide) (fun h_2 => ?_) (fun h_2 => ?_)
    · have hf := gpos h_2 hf
      refine lv_iload_n hM.fx.1 hM.fx.2.1 dX0_allSteps_39 rfl (lv_at hl 1 rfl) ?_
      obtain rfl := Option.some.inj hf
      exact r_iret hM hH hr1 ⟨(Nat.le_of_ble_eq_true rfl), (Nat.le_of_ble_eq_true rfl)⟩ dX0_allSteps_40
    · have hf := gneg' h_2 hf
      refine lv_iload_n hM.fx.1 hM.fx.2.1 dX0_allSteps_12 rfl (lv_at hl 2 rfl) ?_
      refine lv_aload_n hM.fx.1 hM.fx.2.1 dX0_allSteps_13 rfl (lv_at hl 0 rfl) ?_
      refine r_getR hM.fx hM.kf hH hLC fl_X0_11 hg0 gch_1_0 dX0_allSteps_14 ?_
      refine r_alen hM.fx hM.kf hH 4 rfl (hLC.in (hLC.ch hg0 (by decide) gch_1_0) (by decide)) (⟨by decide, by decide⟩ : gAr 148 4) rfl dX0_allSteps_17 ?_
      refine r_icmp_ge (tgt := 39) hM.fx hr2 (gcR (k := 8) (by decide)) dX0_allSteps_18 (by decide) (fun h_3 => ?_) (fun h_3 => ?_)
      · have hf := gpos h_3 hf
        refine lv_iload_n hM.fx.1 hM.fx.2.1 dX0_allSteps_39 rfl (lv_at hl 1 rfl) ?_
        obtain rfl := Option.some.inj hf
        exact r_iret hM hH hr1 ⟨(Nat.le_of_ble_eq_true rfl), (Nat.le_of_ble_eq_true rfl)⟩ dX0_allSteps_40
      · have hf := gneg' h_3 hf
        refine lv_iload_n hM.fx.1 hM.fx.2.1 dX0_allSteps_21 rfl (lv_at hl 1 rfl) ?_
        refine lv_aload_n hM.fx.1 hM.fx.2.1 dX0_allSteps_22 rfl (lv_at hl 0 rfl) ?_
        refine r_getR hM.fx hM.kf hH hLC fl_X0_11 hg0 gch_1_0 dX0_allSteps_23 ?_
        refine lv_iload_n hM.fx.1 hM.fx.2.1 dX0_allSteps_26 rfl (lv_at hl 2 rfl) ?_
        obtain ⟨g_4, hf⟩ := gif hf
        refine r_aald hM.fx hM.kf hH hLC 4 rfl (by decide) (hLC.ch hg0 (by decide) gch_1_0) (⟨by decide, by decide⟩ : gAr 148 4) hr2 g_4 (gch_148 (k := (x2).toNat) (by omega)) dX0_allSteps_27 ?_
        refine r_getI hM.fx hM.kf hH fl_X0_98 (hLC.in (hLC.ch (hLC.ch hg0 (by decide) gch_1_0) (by decide) (gch_148 (k := (x2).toNat) (by omega))) (by decide)) dX0_allSteps_28 ?_
        have hr_5 := hH.2.2.i (hLC.in (hLC.ch (hLC.ch hg0 (by decide) gch_1_0) (by decide) (gch_148 (k := (x2).toNat) (by omega))) (by decide)).2.2 (by decide : glg 5 12 = false)
        refine r_iadd hM.fx dX0_allSteps_31 ?_
        obtain ⟨x_6, ex_6, hf⟩ := gst_s hf
        refine W.eq (g2 := F0 m _ ls (.int (gi x_6) :: _)) (by rw [ex_6]) ?_
        have hx_6 : gRI x_6 := by rw [ex_6]; exact (gwi_r _)
        refine lv_istore_n (lv' := [(1, .int (gi x_6)), (0, .ref (w.1 + a0)), (2, .int (gi x2))]) hM.fx.1 hM.fx.2.1 dX0_allSteps_32 rfl hl (by decide) rfl (fun ls hl => ?_)
        obtain ⟨x_7, ex_7, hf⟩ := gst_s hf
        have hx_7 : gRI x_7 := by rw [ex_7]; exact gwi_r _
        refine r_iinc (lv' := [(2, .int (gi x_7)), (1, .int (gi x_6)), (0, .ref (w.1 + a0))]) hM.fx dX0_allSteps_33 hl (k := 2) rfl (by decide) (by rw [ex_7]; rfl) (fun ls hl => ?_)
        refine lv_goto (tgt := 4) hM.fx.1 hM.fx.2.1 dX0_allSteps_36 (by decide) ?_
        exact ih _ _ _ _ _ hg0 hx_6 hx_7 hf _ _ _ hH (lv_sub hl [2, 1, 0] rfl)
def fX0_allSteps (g : Nat → Nat) (a0 : Nat) (M : gMem) : Option Int :=
  fX0_allSteps_4 g gF a0 0 0 M
set_option maxHeartbeats 4000000 in
set_option maxRecDepth 100000 in
theorem mX0_allSteps {w : gW} {n : Nat} {Rm : Nat → Nat → Nat} {g : Nat → Nat} (hLC : gLC g n Rm) {l : Launch} (hl9 : l.stackTraces = false) {a0 : Nat} {M : gMem} {r : Int} (hg0 : g a0 = 1) (hf : fX0_allSteps g a0 M = some r) : gMT w n Rm l yX0_allSteps cX0_allSteps 3 (some .int) 1 60 0 0 [.ref (w.1 + a0)] M (.inr (some (.int (gi r)))) M (gRI r) := by
  unfold fX0_allSteps at hf
  refine gMT.of hl9 (by decide +kernel) ((Nat.le_of_ble_eq_true rfl)) ?_
  intro p e s m below meth c hM hH ls hl
  have hM : gMC w p l s m ([.ref (w.1 + a0)] : List Value).toArray meth c cX0_allSteps 3 RX0 (some .int) := hM
  have hl : lv_has ls 3 [(0, .ref (w.1 + a0))] := hl
  refine lv_iconst (v := gi (0)) hM.fx.1 hM.fx.2.1 dX0_allSteps_0 rfl ?_
  refine lv_istore_n (lv' := [(1, .int (gi 0)), (0, .ref (w.1 + a0))]) hM.fx.1 hM.fx.2.1 dX0_allSteps_1 rfl hl (by decide) rfl (fun ls hl => ?_)
  refine lv_iconst (v := gi (0)) hM.fx.1 hM.fx.2.1 dX0_allSteps_2 rfl ?_
  refine lv_istore_n (lv' := [(2, .int (gi 0)), (1, .int (gi 0)), (0, .ref (w.1 + a0))]) hM.fx.1 hM.fx.2.1 dX0_allSteps_3 rfl hl (by decide) rfl (fun ls hl => ?_)
  exact wX0_allSteps_4 hLC hM  gF _ _ _ _ _ hg0 (gcR (k := 0) (by decide)) (gcR (k := 0) (by decide)) hf _ _ _ hH (lv_sub hl [2, 1, 0] rfl)
def fX0_allWaits_4 (g : Nat → Nat)  : Nat → Nat → Int → Int → gMem → Option Int
  | 0, _, _, _, _ => none
  | fu + 1, a0, x1, x2, M => if M a0 5 ≤ x2 then (some x1) else (if 8 ≤ x2 then (some x1) else (if (0 : Int) ≤ x2 ∧ (x2 : Int) < 8 then gst (gwi (x1 + M (a0 + 1 + (8 + 4 * x2.toNat)) 13)) fun x_6 => gst (gwi (x2 + 1)) fun x_7 => fX0_allWaits_4 g fu a0 x_6 x_7 M else none))
set_option maxHeartbeats 4000000 in
set_option maxRecDepth 100000 in
theorem wX0_allWaits_4 {w : gW} {n : Nat} {Rm : Nat → Nat → Nat} {g : Nat → Nat} (hLC : gLC g n Rm) {p : Program} {l : Launch} {e : Env} {s : State} {m : MethodId} {args : Array Value} {below : List Frame} {meth : Method} {c : Code} (hM : gMC w p l s m args meth c cX0_allWaits 3 RX0 (some .int))  : ∀ (fu : Nat), ∀ (a0 : Nat) (x1 : Int) (x2 : Int) (M : gMem) (r : Int) (hg0 : g a0 = 1) (hr1 : gRI x1) (hr2 : gRI x2) (hf : fX0_allWaits_4 g fu a0 x1 x2 M = some r) (H : Heap) (locs : List Loc) (ls : Array Slot) (hH : gH w n Rm M s H locs) (hl : lv_has ls 3 [(0, .ref (w.1 + a0)), (1, .int (gi x1)), (2, .int (gi x2))]), W p l e { frames := 1, cells := 0, slots := 0, locals := 60 } s m args below meth c H locs 0 0 (gQ w n Rm below args s 0 0 (.inr (some (.int (gi r)))) M (gRI r)) (F0 m 4 ls []) := by
  intro fu
  induction fu with
  | zero =>
    intro a0 x1 x2 M r hg0 hr1 hr2 hf H locs ls hH hl
    exact absurd hf (by simp [fX0_allWaits_4])
  | succ fu ih =>
    intro a0 x1 x2 M r hg0 hr1 hr2 hf H locs ls hH hl
    unfold fX0_allWaits_4 at hf
    refine lv_iload_n hM.fx.1 hM.fx.2.1 dX0_allWaits_4 rfl (lv_at hl 2 rfl) ?_
    refine lv_aload_n hM.fx.1 hM.fx.2.1 dX0_allWaits_5 rfl (lv_at hl 0 rfl) ?_
    refine r_getI hM.fx hM.kf hH fl_X0_43 (hLC.in hg0 (by decide)) dX0_allWaits_6 ?_
    have hr_1 := hH.2.2.i (hLC.in hg0 (by decide)).2.2 (by decide : glg 1 5 = false)
    refine r_icmp_ge (tgt := 39) hM.fx hr2 hr_1 dX0_allWaits_9 (by decide) (fun h_2 => ?_) (fun h_2 => ?_)
    · have hf := gpos h_2 hf
      refine lv_iload_n hM.fx.1 hM.fx.2.1 dX0_allWaits_39 rfl (lv_at hl 1 rfl) ?_
      obtain rfl := Option.some.inj hf
      exact r_iret hM hH hr1 ⟨(Nat.le_of_ble_eq_true rfl), (Nat.le_of_ble_eq_true rfl)⟩ dX0_allWaits_40
    · have hf := gneg' h_2 hf
      refine lv_iload_n hM.fx.1 hM.fx.2.1 dX0_allWaits_12 rfl (lv_at hl 2 rfl) ?_
      refine lv_aload_n hM.fx.1 hM.fx.2.1 dX0_allWaits_13 rfl (lv_at hl 0 rfl) ?_
      refine r_getR hM.fx hM.kf hH hLC fl_X0_11 hg0 gch_1_0 dX0_allWaits_14 ?_
      refine r_alen hM.fx hM.kf hH 4 rfl (hLC.in (hLC.ch hg0 (by decide) gch_1_0) (by decide)) (⟨by decide, by decide⟩ : gAr 148 4) rfl dX0_allWaits_17 ?_
      refine r_icmp_ge (tgt := 39) hM.fx hr2 (gcR (k := 8) (by decide)) dX0_allWaits_18 (by decide) (fun h_3 => ?_) (fun h_3 => ?_)
      · have hf := gpos h_3 hf
        refine lv_iload_n hM.fx.1 hM.fx.2.1 dX0_allWaits_39 rfl (lv_at hl 1 rfl) ?_
        obtain rfl := Option.some.inj hf
        exact r_iret hM hH hr1 ⟨(Nat.le_of_ble_eq_true rfl), (Nat.le_of_ble_eq_true rfl)⟩ dX0_allWaits_40
      · have hf := gneg' h_3 hf
        refine lv_iload_n hM.fx.1 hM.fx.2.1 dX0_allWaits_21 rfl (lv_at hl 1 rfl) ?_
        refine lv_aload_n hM.fx.1 hM.fx.2.1 dX0_allWaits_22 rfl (lv_at hl 0 rfl) ?_
        refine r_getR hM.fx hM.kf hH hLC fl_X0_11 hg0 gch_1_0 dX0_allWaits_23 ?_
        refine lv_iload_n hM.fx.1 hM.fx.2.1 dX0_allWaits_26 rfl (lv_at hl 2 rfl) ?_
        obtain ⟨g_4, hf⟩ := gif hf
        refine r_aald hM.fx hM.kf hH hLC 4 rfl (by decide) (hLC.ch hg0 (by decide) gch_1_0) (⟨by decide, by decide⟩ : gAr 148 4) hr2 g_4 (gch_148 (k := (x2).toNat) (by omega)) dX0_allWaits_27 ?_
        refine r_getI hM.fx hM.kf hH fl_X0_101 (hLC.in (hLC.ch (hLC.ch hg0 (by decide) gch_1_0) (by decide) (gch_148 (k := (x2).toNat) (by omega))) (by decide)) dX0_allWaits_28 ?_
        have hr_5 := hH.2.2.i (hLC.in (hLC.ch (hLC.ch hg0 (by decide) gch_1_0) (by decide) (gch_148 (k := (x2).toNat) (by omega))) (by decide)).2.2 (by decide : glg 5 13 = false)
        refine r_iadd hM.fx dX0_allWaits_31 ?_
        obtain ⟨x_6, ex_6, hf⟩ := gst_s hf
        refine W.eq (g2 := F0 m _ ls (.int (gi x_6) :: _)) (by rw [ex_6]) ?_
        have hx_6 : gRI x_6 := by rw [ex_6]; exact (gwi_r _)
        refine lv_istore_n (lv' := [(1, .int (gi x_6)), (0, .ref (w.1 + a0)), (2, .int (gi x2))]) hM.fx.1 hM.fx.2.1 dX0_allWaits_32 rfl hl (by decide) rfl (fun ls hl => ?_)
        obtain ⟨x_7, ex_7, hf⟩ := gst_s hf
        have hx_7 : gRI x_7 := by rw [ex_7]; exact gwi_r _
        refine r_iinc (lv' := [(2, .int (gi x_7)), (1, .int (gi x_6)), (0, .ref (w.1 + a0))]) hM.fx dX0_allWaits_33 hl (k := 2) rfl (by decide) (by rw [ex_7]; rfl) (fun ls hl => ?_)
        refine lv_goto (tgt := 4) hM.fx.1 hM.fx.2.1 dX0_allWaits_36 (by decide) ?_
        exact ih _ _ _ _ _ hg0 hx_6 hx_7 hf _ _ _ hH (lv_sub hl [2, 1, 0] rfl)
def fX0_allWaits (g : Nat → Nat) (a0 : Nat) (M : gMem) : Option Int :=
  fX0_allWaits_4 g gF a0 0 0 M
set_option maxHeartbeats 4000000 in
set_option maxRecDepth 100000 in
theorem mX0_allWaits {w : gW} {n : Nat} {Rm : Nat → Nat → Nat} {g : Nat → Nat} (hLC : gLC g n Rm) {l : Launch} (hl9 : l.stackTraces = false) {a0 : Nat} {M : gMem} {r : Int} (hg0 : g a0 = 1) (hf : fX0_allWaits g a0 M = some r) : gMT w n Rm l yX0_allWaits cX0_allWaits 3 (some .int) 1 60 0 0 [.ref (w.1 + a0)] M (.inr (some (.int (gi r)))) M (gRI r) := by
  unfold fX0_allWaits at hf
  refine gMT.of hl9 (by decide +kernel) ((Nat.le_of_ble_eq_true rfl)) ?_
  intro p e s m below meth c hM hH ls hl
  have hM : gMC w p l s m ([.ref (w.1 + a0)] : List Value).toArray meth c cX0_allWaits 3 RX0 (some .int) := hM
  have hl : lv_has ls 3 [(0, .ref (w.1 + a0))] := hl
  refine lv_iconst (v := gi (0)) hM.fx.1 hM.fx.2.1 dX0_allWaits_0 rfl ?_
  refine lv_istore_n (lv' := [(1, .int (gi 0)), (0, .ref (w.1 + a0))]) hM.fx.1 hM.fx.2.1 dX0_allWaits_1 rfl hl (by decide) rfl (fun ls hl => ?_)
  refine lv_iconst (v := gi (0)) hM.fx.1 hM.fx.2.1 dX0_allWaits_2 rfl ?_
  refine lv_istore_n (lv' := [(2, .int (gi 0)), (1, .int (gi 0)), (0, .ref (w.1 + a0))]) hM.fx.1 hM.fx.2.1 dX0_allWaits_3 rfl hl (by decide) rfl (fun ls hl => ?_)
  exact wX0_allWaits_4 hLC hM  gF _ _ _ _ _ hg0 (gcR (k := 0) (by decide)) (gcR (k := 0) (by decide)) hf _ _ _ hH (lv_sub hl [2, 1, 0] rfl)
def fX0_stepSpread_73 (g : Nat → Nat)  (x1 : Int) (x2 : Int) (M : gMem) : Option Int :=
  some (gwi (x1 - x2))
set_option maxHeartbeats 4000000 in
set_option maxRecDepth 100000 in
theorem wX0_stepSpread_73 {w : gW} {n : Nat} {Rm : Nat → Nat → Nat} {g : Nat → Nat} (hLC : gLC g n Rm) {p : Program} {l : Launch} {e : Env} {s : State} {m : MethodId} {args : Array Value} {below : List Frame} {meth : Method} {c : Code} (hM : gMC w p l s m args meth c cX0_stepSpread 4 RX0 (some .int))  : ∀ (x1 : Int) (x2 : Int) (M : gMem) (r : Int) (hr1 : gRI x1) (hr2 : gRI x2) (hf : fX0_stepSpread_73 g x1 x2 M = some r) (H : Heap) (locs : List Loc) (ls : Array Slot) (hH : gH w n Rm M s H locs) (hl : lv_has ls 4 [(1, .int (gi x1)), (2, .int (gi x2))]), W p l e { frames := 1, cells := 0, slots := 0, locals := 60 } s m args below meth c H locs 0 0 (gQ w n Rm below args s 0 0 (.inr (some (.int (gi r)))) M (gRI r)) (F0 m 73 ls []) := by
  intro x1 x2 M r hr1 hr2 hf H locs ls hH hl
  unfold fX0_stepSpread_73 at hf
  refine lv_iload_n hM.fx.1 hM.fx.2.1 dX0_stepSpread_73 rfl (lv_at hl 0 rfl) ?_
  refine lv_iload_n hM.fx.1 hM.fx.2.1 dX0_stepSpread_74 rfl (lv_at hl 1 rfl) ?_
  refine r_isub hM.fx dX0_stepSpread_75 ?_
  obtain rfl := Option.some.inj hf
  exact r_iret hM hH (gwi_r _) ⟨(Nat.le_of_ble_eq_true rfl), (Nat.le_of_ble_eq_true rfl)⟩ dX0_stepSpread_76
def fX0_stepSpread_66 (g : Nat → Nat) (k6 : Nat → Int → Int → Int → gMem → Option Int) (a0 : Nat) (x1 : Int) (x3 : Int) (xs0 : Int) (M : gMem) : Option Int :=
  gst (gwi (x3 + 1)) fun x_1 => k6 a0 x1 xs0 x_1 M
set_option maxHeartbeats 4000000 in
set_option maxRecDepth 100000 in
theorem wX0_stepSpread_66 {w : gW} {n : Nat} {Rm : Nat → Nat → Nat} {g : Nat → Nat} (hLC : gLC g n Rm) {p : Program} {l : Launch} {e : Env} {s : State} {m : MethodId} {args : Array Value} {below : List Frame} {meth : Method} {c : Code} (hM : gMC w p l s m args meth c cX0_stepSpread 4 RX0 (some .int)) (k6 : Nat → Int → Int → Int → gMem → Option Int) (hk6 : ∀ (a0 : Nat) (x1 : Int) (x2 : Int) (x3 : Int) (M : gMem) (r : Int) (hg0 : g a0 = 1) (hr1 : gRI x1) (hr2 : gRI x2) (hr3 : gRI x3) (hf : k6 a0 x1 x2 x3 M = some r) (H : Heap) (locs : List Loc) (ls : Array Slot) (hH : gH w n Rm M s H locs) (hl : lv_has ls 4 [(0, .ref (w.1 + a0)), (1, .int (gi x1)), (2, .int (gi x2)), (3, .int (gi x3))]), W p l e { frames := 1, cells := 0, slots := 0, locals := 60 } s m args below meth c H locs 0 0 (gQ w n Rm below args s 0 0 (.inr (some (.int (gi r)))) M (gRI r)) (F0 m 6 ls [])) : ∀ (a0 : Nat) (x1 : Int) (x3 : Int) (xs0 : Int) (M : gMem) (r : Int) (hg0 : g a0 = 1) (hr1 : gRI x1) (hr3 : gRI x3) (hrs0 : gRI xs0) (hf : fX0_stepSpread_66 g k6 a0 x1 x3 xs0 M = some r) (H : Heap) (locs : List Loc) (ls : Array Slot) (hH : gH w n Rm M s H locs) (hl : lv_has ls 4 [(0, .ref (w.1 + a0)), (1, .int (gi x1)), (3, .int (gi x3))]), W p l e { frames := 1, cells := 0, slots := 0, locals := 60 } s m args below meth c H locs 0 0 (gQ w n Rm below args s 0 0 (.inr (some (.int (gi r)))) M (gRI r)) (F0 m 66 ls [.int (gi xs0)]) := by
  intro a0 x1 x3 xs0 M r hg0 hr1 hr3 hrs0 hf H locs ls hH hl
  unfold fX0_stepSpread_66 at hf
  refine lv_istore_n (lv' := [(2, .int (gi xs0)), (0, .ref (w.1 + a0)), (1, .int (gi x1)), (3, .int (gi x3))]) hM.fx.1 hM.fx.2.1 dX0_stepSpread_66 rfl hl (by decide) rfl (fun ls hl => ?_)
  obtain ⟨x_1, ex_1, hf⟩ := gst_s hf
  have hx_1 : gRI x_1 := by rw [ex_1]; exact gwi_r _
  refine r_iinc (lv' := [(3, .int (gi x_1)), (2, .int (gi xs0)), (0, .ref (w.1 + a0)), (1, .int (gi x1))]) hM.fx dX0_stepSpread_67 hl (k := 3) rfl (by decide) (by rw [ex_1]; rfl) (fun ls hl => ?_)
  refine lv_goto (tgt := 6) hM.fx.1 hM.fx.2.1 dX0_stepSpread_70 (by decide) ?_
  exact hk6 _ _ _ _ _ _ hg0 hr1 hrs0 hx_1 hf _ _ _ hH (lv_sub hl [2, 3, 1, 0] rfl)
def fX0_stepSpread_6 (g : Nat → Nat)  : Nat → Nat → Int → Int → Int → gMem → Option Int
  | 0, _, _, _, _, _ => none
  | fu + 1, a0, x1, x2, x3, M => if M a0 5 ≤ x3 then (fX0_stepSpread_73 g x1 x2 M) else (if 8 ≤ x3 then (fX0_stepSpread_73 g x1 x2 M) else (if (0 : Int) ≤ x3 ∧ (x3 : Int) < 8 then gst (gmax x1 (M (a0 + 1 + (8 + 4 * x3.toNat)) 12)) fun x_6 => if x3 = 0 then (if (0 : Int) ≤ x3 ∧ (x3 : Int) < 8 then fX0_stepSpread_66 g (fX0_stepSpread_6 g fu) a0 x_6 x3 (M (a0 + 1 + (8 + 4 * x3.toNat)) 12) M else none) else (if (0 : Int) ≤ x3 ∧ (x3 : Int) < 8 then fX0_stepSpread_66 g (fX0_stepSpread_6 g fu) a0 x_6 x3 (gmin x2 (M (a0 + 1 + (8 + 4 * x3.toNat)) 12)) M else none) else none))
set_option maxHeartbeats 4000000 in
set_option maxRecDepth 100000 in
theorem wX0_stepSpread_6 {w : gW} {n : Nat} {Rm : Nat → Nat → Nat} {g : Nat → Nat} (hLC : gLC g n Rm) {p : Program} {l : Launch} {e : Env} {s : State} {m : MethodId} {args : Array Value} {below : List Frame} {meth : Method} {c : Code} (hM : gMC w p l s m args meth c cX0_stepSpread 4 RX0 (some .int))  : ∀ (fu : Nat), ∀ (a0 : Nat) (x1 : Int) (x2 : Int) (x3 : Int) (M : gMem) (r : Int) (hg0 : g a0 = 1) (hr1 : gRI x1) (hr2 : gRI x2) (hr3 : gRI x3) (hf : fX0_stepSpread_6 g fu a0 x1 x2 x3 M = some r) (H : Heap) (locs : List Loc) (ls : Array Slot) (hH : gH w n Rm M s H locs) (hl : lv_has ls 4 [(0, .ref (w.1 + a0)), (1, .int (gi x1)), (2, .int (gi x2)), (3, .int (gi x3))]), W p l e { frames := 1, cells := 0, slots := 0, locals := 60 } s m args below meth c H locs 0 0 (gQ w n Rm below args s 0 0 (.inr (some (.int (gi r)))) M (gRI r)) (F0 m 6 ls []) := by
  intro fu
  induction fu with
  | zero =>
    intro a0 x1 x2 x3 M r hg0 hr1 hr2 hr3 hf H locs ls hH hl
    exact absurd hf (by simp [fX0_stepSpread_6])
  | succ fu ih =>
    intro a0 x1 x2 x3 M r hg0 hr1 hr2 hr3 hf H locs ls hH hl
    unfold fX0_stepSpread_6 at hf
    refine lv_iload_n hM.fx.1 hM.fx.2.1 dX0_stepSpread_6 rfl (lv_at hl 3 rfl) ?_
    refine lv_aload_n hM.fx.1 hM.fx.2.1 dX0_stepSpread_7 rfl (lv_at hl 0 rfl) ?_
    refine r_getI hM.fx hM.kf hH fl_X0_43 (hLC.in hg0 (by decide)) dX0_stepSpread_8 ?_
    have hr_1 := hH.2.2.i (hLC.in hg0 (by decide)).2.2 (by decide : glg 1 5 = false)
    refine r_icmp_ge (tgt := 73) hM.fx hr3 hr_1 dX0_stepSpread_11 (by decide) (fun h_2 => ?_) (fun h_2 => ?_)
    · have hf := gpos h_2 hf
      exact wX0_stepSpread_73 hLC hM   _ _ _ _ hr1 hr2 hf _ _ _ hH (lv_sub hl [1, 2] rfl)
    · have hf := gneg' h_2 hf
      refine lv_iload_n hM.fx.1 hM.fx.2.1 dX0_stepSpread_14 rfl (lv_at hl 3 rfl) ?_
      refine lv_aload_n hM.fx.1 hM.fx.2.1 dX0_stepSpread_15 rfl (lv_at hl 0 rfl) ?_
      refine r_getR hM.fx hM.kf hH hLC fl_X0_11 hg0 gch_1_0 dX0_stepSpread_16 ?_
      refine r_alen hM.fx hM.kf hH 4 rfl (hLC.in (hLC.ch hg0 (by decide) gch_1_0) (by decide)) (⟨by decide, by decide⟩ : gAr 148 4) rfl dX0_stepSpread_19 ?_
      refine r_icmp_ge (tgt := 73) hM.fx hr3 (gcR (k := 8) (by decide)) dX0_stepSpread_20 (by decide) (fun h_3 => ?_) (fun h_3 => ?_)
      · have hf := gpos h_3 hf
        exact wX0_stepSpread_73 hLC hM   _ _ _ _ hr1 hr2 hf _ _ _ hH (lv_sub hl [1, 2] rfl)
      · have hf := gneg' h_3 hf
        refine lv_iload_n hM.fx.1 hM.fx.2.1 dX0_stepSpread_23 rfl (lv_at hl 1 rfl) ?_
        refine lv_aload_n hM.fx.1 hM.fx.2.1 dX0_stepSpread_24 rfl (lv_at hl 0 rfl) ?_
        refine r_getR hM.fx hM.kf hH hLC fl_X0_11 hg0 gch_1_0 dX0_stepSpread_25 ?_
        refine lv_iload_n hM.fx.1 hM.fx.2.1 dX0_stepSpread_28 rfl (lv_at hl 3 rfl) ?_
        obtain ⟨g_4, hf⟩ := gif hf
        refine r_aald hM.fx hM.kf hH hLC 4 rfl (by decide) (hLC.ch hg0 (by decide) gch_1_0) (⟨by decide, by decide⟩ : gAr 148 4) hr3 g_4 (gch_148 (k := (x3).toNat) (by omega)) dX0_stepSpread_29 ?_
        refine r_getI hM.fx hM.kf hH fl_X0_98 (hLC.in (hLC.ch (hLC.ch hg0 (by decide) gch_1_0) (by decide) (gch_148 (k := (x3).toNat) (by omega))) (by decide)) dX0_stepSpread_30 ?_
        have hr_5 := hH.2.2.i (hLC.in (hLC.ch (hLC.ch hg0 (by decide) gch_1_0) (by decide) (gch_148 (k := (x3).toNat) (by omega))) (by decide)).2.2 (by decide : glg 5 12 = false)
        refine r_mmax hM.fx hl.1 ⟨gw_705, gw_706, gw_105, gw_707⟩ ⟨(Nat.le_of_ble_eq_true rfl), (Nat.le_of_ble_eq_true rfl)⟩ ⟨(Nat.le_of_ble_eq_true rfl), (Nat.le_of_ble_eq_true rfl)⟩ hr1 hr_5 dX0_stepSpread_33 ?_
        obtain ⟨x_6, ex_6, hf⟩ := gst_s hf
        refine W.eq (g2 := F0 m _ ls (.int (gi x_6) :: _)) (by rw [ex_6]) ?_
        have hx_6 : gRI x_6 := by rw [ex_6]; exact (gmax_r hr1 hr_5)
        refine lv_istore_n (lv' := [(1, .int (gi x_6)), (0, .ref (w.1 + a0)), (2, .int (gi x2)), (3, .int (gi x3))]) hM.fx.1 hM.fx.2.1 dX0_stepSpread_36 rfl hl (by decide) rfl (fun ls hl => ?_)
        refine lv_iload_n hM.fx.1 hM.fx.2.1 dX0_stepSpread_37 rfl (lv_at hl 3 rfl) ?_
        refine r_if_ne (tgt := 53) hM.fx hr3 dX0_stepSpread_38 (by decide) (fun h_7 => ?_) (fun h_7 => ?_)
        · have hf := gneg' h_7 hf
          refine lv_iload_n hM.fx.1 hM.fx.2.1 dX0_stepSpread_53 rfl (lv_at hl 2 rfl) ?_
          refine lv_aload_n hM.fx.1 hM.fx.2.1 dX0_stepSpread_54 rfl (lv_at hl 1 rfl) ?_
          refine r_getR hM.fx hM.kf hH hLC fl_X0_11 hg0 gch_1_0 dX0_stepSpread_55 ?_
          refine lv_iload_n hM.fx.1 hM.fx.2.1 dX0_stepSpread_58 rfl (lv_at hl 3 rfl) ?_
          obtain ⟨g_8, hf⟩ := gif hf
          refine r_aald hM.fx hM.kf hH hLC 4 rfl (by decide) (hLC.ch hg0 (by decide) gch_1_0) (⟨by decide, by decide⟩ : gAr 148 4) hr3 g_8 (gch_148 (k := (x3).toNat) (by omega)) dX0_stepSpread_59 ?_
          refine r_getI hM.fx hM.kf hH fl_X0_98 (hLC.in (hLC.ch (hLC.ch hg0 (by decide) gch_1_0) (by decide) (gch_148 (k := (x3).toNat) (by omega))) (by decide)) dX0_stepSpread_60 ?_
          have hr_9 := hH.2.2.i (hLC.in (hLC.ch (hLC.ch hg0 (by decide) gch_1_0) (by decide) (gch_148 (k := (x3).toNat) (by omega))) (by decide)).2.2 (by decide : glg 5 12 = false)
          refine r_mmin hM.fx hl.1 ⟨gw_708, gw_445, gw_105, gw_446⟩ ⟨(Nat.le_of_ble_eq_true rfl), (Nat.le_of_ble_eq_true rfl)⟩ ⟨(Nat.le_of_ble_eq_true rfl), (Nat.le_of_ble_eq_true rfl)⟩ hr2 hr_9 dX0_stepSpread_63 ?_
          exact wX0_stepSpread_66 hLC hM (fX0_stepSpread_6 g fu) ih  _ _ _ _ _ _ hg0 hx_6 hr3 (gmin_r hr2 hr_9) hf _ _ _ hH (lv_sub hl [1, 0, 3] rfl)
        · have hf := gpos h_7 hf
          refine lv_aload_n hM.fx.1 hM.fx.2.1 dX0_stepSpread_41 rfl (lv_at hl 1 rfl) ?_
          refine r_getR hM.fx hM.kf hH hLC fl_X0_11 hg0 gch_1_0 dX0_stepSpread_42 ?_
          refine lv_iload_n hM.fx.1 hM.fx.2.1 dX0_stepSpread_45 rfl (lv_at hl 3 rfl) ?_
          obtain ⟨g_10, hf⟩ := gif hf
          refine r_aald hM.fx hM.kf hH hLC 4 rfl (by decide) (hLC.ch hg0 (by decide) gch_1_0) (⟨by decide, by decide⟩ : gAr 148 4) hr3 g_10 (gch_148 (k := (x3).toNat) (by omega)) dX0_stepSpread_46 ?_
          refine r_getI hM.fx hM.kf hH fl_X0_98 (hLC.in (hLC.ch (hLC.ch hg0 (by decide) gch_1_0) (by decide) (gch_148 (k := (x3).toNat) (by omega))) (by decide)) dX0_stepSpread_47 ?_
          have hr_11 := hH.2.2.i (hLC.in (hLC.ch (hLC.ch hg0 (by decide) gch_1_0) (by decide) (gch_148 (k := (x3).toNat) (by omega))) (by decide)).2.2 (by decide : glg 5 12 = false)
          refine lv_goto (tgt := 66) hM.fx.1 hM.fx.2.1 dX0_stepSpread_50 (by decide) ?_
          exact wX0_stepSpread_66 hLC hM (fX0_stepSpread_6 g fu) ih  _ _ _ _ _ _ hg0 hx_6 hr3 hr_11 hf _ _ _ hH (lv_sub hl [1, 0, 3] rfl)
def fX0_stepSpread (g : Nat → Nat) (a0 : Nat) (M : gMem) : Option Int :=
  fX0_stepSpread_6 g gF a0 0 0 0 M
set_option maxHeartbeats 4000000 in
set_option maxRecDepth 100000 in
theorem mX0_stepSpread {w : gW} {n : Nat} {Rm : Nat → Nat → Nat} {g : Nat → Nat} (hLC : gLC g n Rm) {l : Launch} (hl9 : l.stackTraces = false) {a0 : Nat} {M : gMem} {r : Int} (hg0 : g a0 = 1) (hf : fX0_stepSpread g a0 M = some r) : gMT w n Rm l yX0_stepSpread cX0_stepSpread 4 (some .int) 1 60 0 0 [.ref (w.1 + a0)] M (.inr (some (.int (gi r)))) M (gRI r) := by
  unfold fX0_stepSpread at hf
  refine gMT.of hl9 (by decide +kernel) ((Nat.le_of_ble_eq_true rfl)) ?_
  intro p e s m below meth c hM hH ls hl
  have hM : gMC w p l s m ([.ref (w.1 + a0)] : List Value).toArray meth c cX0_stepSpread 4 RX0 (some .int) := hM
  have hl : lv_has ls 4 [(0, .ref (w.1 + a0))] := hl
  refine lv_iconst (v := gi (0)) hM.fx.1 hM.fx.2.1 dX0_stepSpread_0 rfl ?_
  refine lv_istore_n (lv' := [(1, .int (gi 0)), (0, .ref (w.1 + a0))]) hM.fx.1 hM.fx.2.1 dX0_stepSpread_1 rfl hl (by decide) rfl (fun ls hl => ?_)
  refine lv_iconst (v := gi (0)) hM.fx.1 hM.fx.2.1 dX0_stepSpread_2 rfl ?_
  refine lv_istore_n (lv' := [(2, .int (gi 0)), (1, .int (gi 0)), (0, .ref (w.1 + a0))]) hM.fx.1 hM.fx.2.1 dX0_stepSpread_3 rfl hl (by decide) rfl (fun ls hl => ?_)
  refine lv_iconst (v := gi (0)) hM.fx.1 hM.fx.2.1 dX0_stepSpread_4 rfl ?_
  refine lv_istore_n (lv' := [(3, .int (gi 0)), (2, .int (gi 0)), (1, .int (gi 0)), (0, .ref (w.1 + a0))]) hM.fx.1 hM.fx.2.1 dX0_stepSpread_5 rfl hl (by decide) rfl (fun ls hl => ?_)
  exact wX0_stepSpread_6 hLC hM  gF _ _ _ _ _ _ hg0 (gcR (k := 0) (by decide)) (gcR (k := 0) (by decide)) (gcR (k := 0) (by decide)) hf _ _ _ hH (lv_sub hl [3, 2, 1, 0] rfl)
