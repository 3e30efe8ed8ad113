def fX8_put (g : Nat → Nat) (a0 : Nat) (x1 : Int) (x2 : Int) (M : gMem) : Option ((Nat ⊕ Int) × gMem) :=
  gtry (fX8_existingPile g a0 x1 M) (fun e_2 => some (.inl e_2, M)) fun a_3 => if x2 < (-999999) then (some (.inl 2, M)) else (if x2 ≤ 999999 then ((fX3_isFull g a_3 M).bind fun x_7 => if x_7 = 0 then ((fX1_remember g (a0 + 131) (a0 + 1) M).bind fun M_10 => (fX3_addTop g a_3 x2 M_10).bind fun M_12 => some ((.inr (M_12 a_3 1)), M_12)) else (some ((.inr ((-11))), M))) else (some (.inl 2, M)))
set_option maxHeartbeats 4000000 in
set_option maxRecDepth 100000 in
theorem mX8_put {w : gW} {n : Nat} {Rm : Nat → Nat → Nat} {g : Nat → Nat} (hLC : gLC g n Rm) {l : Launch} (hl9 : l.stackTraces = false) {a0 : Nat} {x1 : Int} {x2 : Int} {M : gMem} {r : ((Nat ⊕ Int) × gMem)} (hg0 : g a0 = 8) (hr1 : gRI x1) (hr2 : gRI x2) (hf : fX8_put g a0 x1 x2 M = some r) : gMT w n Rm l yX8_put cX8_put 4 (some .int) 7 124 2 12 [.ref (w.1 + a0), .int (gi x1), .int (gi x2)] M (gOcT (fun z => some (.int (gi z))) r.1) r.2 (∀ z, r.1 = .inr z → (gRI z)) := by
  unfold fX8_put at hf
  refine gMT.of hl9 (by decide +kernel) ((Nat.le_of_ble_eq_true rfl)) ?_
  intro p e s m below meth c hM hH ls hl
  have hM : gMC w p l s m ([.ref (w.1 + a0), .int (gi x1), .int (gi x2)] : List Value).toArray meth c cX8_put 4 RX8 (some .int) := hM
  have hl : lv_has ls 4 [(0, .ref (w.1 + a0)), (1, .int (gi x1)), (2, .int (gi x2))] := hl
  refine lv_aload_n hM.fx.1 hM.fx.2.1 dX8_put_0 rfl (lv_at hl 0 rfl) ?_
  refine lv_iload_n hM.fx.1 hM.fx.2.1 dX8_put_1 rfl (lv_at hl 1 rfl) ?_
  rcases gtry_s hf with ⟨e_2, qe_2, hf⟩ | ⟨a_3, qa_3, hf⟩
  · obtain rfl := Option.some.inj hf
    exact r_goX hM hH rfl (r_runV (As := [.int (gi x1)]) hM hH cv_X8_175 (mX8_existingPile hLC hM.ns hg0 hr1 qe_2) (hLC.in hg0 (by decide)) (by decide) rfl rfl rfl hl.1 rfl (Nat.le_of_ble_eq_true rfl) ⟨(Nat.le_of_ble_eq_true rfl), (Nat.le_of_ble_eq_true rfl)⟩ ⟨(Nat.le_of_ble_eq_true rfl), (Nat.le_of_ble_eq_true rfl)⟩ dX8_put_2) ⟨(Nat.le_of_ble_eq_true rfl), (Nat.le_of_ble_eq_true rfl)⟩
  refine r_go1 hH rfl (r_runV (As := [.int (gi x1)]) hM hH cv_X8_175 (mX8_existingPile hLC hM.ns hg0 hr1 qa_3) (hLC.in hg0 (by decide)) (by decide) rfl rfl rfl hl.1 rfl (Nat.le_of_ble_eq_true rfl) ⟨(Nat.le_of_ble_eq_true rfl), (Nat.le_of_ble_eq_true rfl)⟩ ⟨(Nat.le_of_ble_eq_true rfl), (Nat.le_of_ble_eq_true rfl)⟩ dX8_put_2) (fun hp_1 H locs hH => ?_)
  refine lv_astore_n (lv' := [(3, .ref (w.1 + a_3)), (0, .ref (w.1 + a0)), (1, .int (gi x1)), (2, .int (gi x2))]) hM.fx.1 hM.fx.2.1 dX8_put_5 rfl hl (by decide) rfl (fun ls hl => ?_)
  refine lv_iload_n hM.fx.1 hM.fx.2.1 dX8_put_6 rfl (lv_at hl 3 rfl) ?_
  refine r_ldcw (x := -999999) hM.fx gw_1133 (by decide) dX8_put_7 ?_
  refine r_icmp_lt (tgt := 20) hM.fx hr2 (gcR (k := -999999) (by decide)) dX8_put_10 (by decide) (fun h_4 => ?_) (fun h_4 => ?_)
  · have hf := gpos h_4 hf
    obtain rfl := Option.some.inj hf
    exact r_throwW (i := 35) (text := "a number is -999999 to 999999") hM hH th_X8_131_135 rfl hl.1 dX8_put_20 dX8_put_23 dX8_put_24 dX8_put_27 dX8_put_30 ⟨(Nat.le_of_ble_eq_true rfl), (Nat.le_of_ble_eq_true rfl), (Nat.le_of_ble_eq_true rfl), (Nat.le_of_ble_eq_true rfl)⟩ ⟨(Nat.le_of_ble_eq_true rfl), (Nat.le_of_ble_eq_true rfl)⟩
  · have hf := gneg' h_4 hf
    refine lv_iload_n hM.fx.1 hM.fx.2.1 dX8_put_13 rfl (lv_at hl 3 rfl) ?_
    refine r_ldcw (x := 999999) hM.fx gw_1134 (by decide) dX8_put_14 ?_
    refine r_icmp_le (tgt := 31) hM.fx hr2 (gcR (k := 999999) (by decide)) dX8_put_17 (by decide) (fun h_5 => ?_) (fun h_5 => ?_)
    · have hf := gpos h_5 hf
      refine lv_aload_n hM.fx.1 hM.fx.2.1 dX8_put_31 rfl (lv_at hl 0 rfl) ?_
      obtain ⟨x_7, ex_7, hf⟩ := gbd hf
      refine r_go1 hH rfl (r_runV (As := []) hM hH cv_X8_280 (mX3_isFull hLC hM.ns (hp_1 _ rfl) ex_7) (hLC.in (hp_1 _ rfl) (by decide)) (by decide) rfl rfl rfl hl.1 rfl (Nat.le_of_ble_eq_true rfl) ⟨(Nat.le_of_ble_eq_true rfl), (Nat.le_of_ble_eq_true rfl)⟩ ⟨(Nat.le_of_ble_eq_true rfl), (Nat.le_of_ble_eq_true rfl)⟩ dX8_put_32) (fun hp_6 H locs hH => ?_)
      refine r_if_eq (tgt := 41) hM.fx (gz_r hp_6) dX8_put_35 (by decide) (fun h_8 => ?_) (fun h_8 => ?_)
      · have hf := gpos h_8 hf
        refine lv_aload_n hM.fx.1 hM.fx.2.1 dX8_put_41 rfl (lv_at hl 1 rfl) ?_
        refine r_getR hM.fx hM.kf hH hLC fl_X8_32 hg0 gch_8_2 dX8_put_42 ?_
        refine lv_aload_n hM.fx.1 hM.fx.2.1 dX8_put_45 rfl (lv_at hl 1 rfl) ?_
        refine r_getR hM.fx hM.kf hH hLC fl_X8_10 hg0 gch_8_0 dX8_put_46 ?_
        obtain ⟨M_10, eM_10, hf⟩ := gbd hf
        refine r_go0 hH rfl (r_runV (As := [.ref (w.1 + (a0 + 1))]) hM hH cv_X8_83 (mX1_remember hLC hM.ns (hLC.ch hg0 (by decide) gch_8_2) (hLC.ch hg0 (by decide) gch_8_0) eM_10) (hLC.in (hLC.ch hg0 (by decide) gch_8_2) (by decide)) (by decide) rfl rfl rfl hl.1 rfl (Nat.le_of_ble_eq_true rfl) ⟨(Nat.le_of_ble_eq_true rfl), (Nat.le_of_ble_eq_true rfl)⟩ ⟨(Nat.le_of_ble_eq_true rfl), (Nat.le_of_ble_eq_true rfl)⟩ dX8_put_49) (fun hp_9 H locs hH => ?_)
        refine lv_aload_n hM.fx.1 hM.fx.2.1 dX8_put_52 rfl (lv_at hl 0 rfl) ?_
        refine lv_iload_n hM.fx.1 hM.fx.2.1 dX8_put_53 rfl (lv_at hl 3 rfl) ?_
        obtain ⟨M_12, eM_12, hf⟩ := gbd hf
        refine r_go0 hH rfl (r_runV (As := [.int (gi x2)]) hM hH cv_X8_283 (mX3_addTop hLC hM.ns (hp_1 _ rfl) hr2 eM_12) (hLC.in (hp_1 _ rfl) (by decide)) (by decide) rfl rfl rfl hl.1 rfl (Nat.le_of_ble_eq_true rfl) ⟨(Nat.le_of_ble_eq_true rfl), (Nat.le_of_ble_eq_true rfl)⟩ ⟨(Nat.le_of_ble_eq_true rfl), (Nat.le_of_ble_eq_true rfl)⟩ dX8_put_54) (fun hp_11 H locs hH => ?_)
        refine lv_aload_n hM.fx.1 hM.fx.2.1 dX8_put_57 rfl (lv_at hl 0 rfl) ?_
        refine r_getI hM.fx hM.kf hH fl_X8_184 (hLC.in (hp_1 _ rfl) (by decide)) dX8_put_58 ?_
        have hr_13 := hH.2.2.i (hLC.in (hp_1 _ rfl) (by decide)).2.2 (by decide : glg 4 1 = false)
        obtain rfl := Option.some.inj hf
        exact r_iret hM hH (fun z hz => by cases hz; exact hr_13) ⟨(Nat.le_of_ble_eq_true rfl), (Nat.le_of_ble_eq_true rfl)⟩ dX8_put_61
      · have hf := gneg' h_8 hf
        refine lv_bipush (v := gi (-11)) hM.fx.1 hM.fx.2.1 dX8_put_38 (by decide) ?_
        obtain rfl := Option.some.inj hf
        exact r_iret hM hH (fun z hz => by cases hz; exact (gcR (k := -11) (by decide))) ⟨(Nat.le_of_ble_eq_true rfl), (Nat.le_of_ble_eq_true rfl)⟩ dX8_put_40
    · have hf := gneg' h_5 hf
      obtain rfl := Option.some.inj hf
      exact r_throwW (i := 35) (text := "a number is -999999 to 999999") hM hH th_X8_131_135 rfl hl.1 dX8_put_20 dX8_put_23 dX8_put_24 dX8_put_27 dX8_put_30 ⟨(Nat.le_of_ble_eq_true rfl), (Nat.le_of_ble_eq_true rfl), (Nat.le_of_ble_eq_true rfl), (Nat.le_of_ble_eq_true rfl)⟩ ⟨(Nat.le_of_ble_eq_true rfl), (Nat.le_of_ble_eq_true rfl)⟩
def fX8_hand (g : Nat → Nat) (a0 : Nat) (x1 : Int) (x2 : Int) (M : gMem) : Option ((Nat ⊕ Int) × gMem) :=
  gtry (fX8_checkSlot g a0 x1 M) (fun e_2 => some (.inl e_2, M)) fun u_3 => gtry (fX8_existingProc g a0 x2 M) (fun e_5 => some (.inl e_5, M)) fun a_6 => (fX0_lyingOn g (a0 + 1) x1 M).bind fun x_8 => if x_8 = (-1) then (some ((.inr ((-12))), M)) else (if M a_6 10 = (-1) then ((fX1_remember g (a0 + 131) (a0 + 1) M).bind fun M_13 => (fX0_setOnSlot g (a0 + 1) x1 ((-1)) M_13).bind fun M_15 => (fX0_setInHand g (a0 + 1) x2 x_8 M_15).bind fun M_17 => some ((.inr x_8), M_17)) else (some ((.inr ((-13))), M)))
set_option maxHeartbeats 4000000 in
set_option maxRecDepth 100000 in
theorem mX8_hand {w : gW} {n : Nat} {Rm : Nat → Nat → Nat} {g : Nat → Nat} (hLC : gLC g n Rm) {l : Launch} (hl9 : l.stackTraces = false) {a0 : Nat} {x1 : Int} {x2 : Int} {M : gMem} {r : ((Nat ⊕ Int) × gMem)} (hg0 : g a0 = 8) (hr1 : gRI x1) (hr2 : gRI x2) (hf : fX8_hand g a0 x1 x2 M = some r) : gMT w n Rm l yX8_hand cX8_hand 5 (some .int) 7 124 2 12 [.ref (w.1 + a0), .int (gi x1), .int (gi x2)] M (gOcT (fun z => some (.int (gi z))) r.1) r.2 (∀ z, r.1 = .inr z → (gRI z)) := by
  unfold fX8_hand at hf
  refine gMT.of hl9 (by decide +kernel) ((Nat.le_of_ble_eq_true rfl)) ?_
  intro p e s m below meth c hM hH ls hl
  have hM : gMC w p l s m ([.ref (w.1 + a0), .int (gi x1), .int (gi x2)] : List Value).toArray meth c cX8_hand 5 RX8 (some .int) := hM
  have hl : lv_has ls 5 [(0, .ref (w.1 + a0)), (1, .int (gi x1)), (2, .int (gi x2))] := hl
  refine lv_aload_n hM.fx.1 hM.fx.2.1 dX8_hand_0 rfl (lv_at hl 0 rfl) ?_
  refine lv_iload_n hM.fx.1 hM.fx.2.1 dX8_hand_1 rfl (lv_at hl 1 rfl) ?_
  rcases gtry_s hf with ⟨e_2, qe_2, hf⟩ | ⟨u_3, qu_3, hf⟩
  · obtain rfl := Option.some.inj hf
    exact r_goX hM hH rfl (r_runV (As := [.int (gi x1)]) hM hH cv_X8_200 (mX8_checkSlot hLC hM.ns hg0 hr1 qe_2) (hLC.in hg0 (by decide)) (by decide) rfl rfl rfl hl.1 rfl (Nat.le_of_ble_eq_true rfl) ⟨(Nat.le_of_ble_eq_true rfl), (Nat.le_of_ble_eq_true rfl)⟩ ⟨(Nat.le_of_ble_eq_true rfl), (Nat.le_of_ble_eq_true rfl)⟩ dX8_hand_2) ⟨(Nat.le_of_ble_eq_true rfl), (Nat.le_of_ble_eq_true rfl)⟩
  refine r_go0 hH rfl (r_runV (As := [.int (gi x1)]) hM hH cv_X8_200 (mX8_checkSlot hLC hM.ns hg0 hr1 qu_3) (hLC.in hg0 (by decide)) (by decide) rfl rfl rfl hl.1 rfl (Nat.le_of_ble_eq_true rfl) ⟨(Nat.le_of_ble_eq_true rfl), (Nat.le_of_ble_eq_true rfl)⟩ ⟨(Nat.le_of_ble_eq_true rfl), (Nat.le_of_ble_eq_true rfl)⟩ dX8_hand_2) (fun hp_1 H locs hH => ?_)
  refine lv_aload_n hM.fx.1 hM.fx.2.1 dX8_hand_5 rfl (lv_at hl 0 rfl) ?_
  refine lv_iload_n hM.fx.1 hM.fx.2.1 dX8_hand_6 rfl (lv_at hl 2 rfl) ?_
  rcases gtry_s hf with ⟨e_5, qe_5, hf⟩ | ⟨a_6, qa_6, hf⟩
  · obtain rfl := Option.some.inj hf
    exact r_goX hM hH rfl (r_runV (As := [.int (gi x2)]) hM hH cv_X8_136 (mX8_existingProc hLC hM.ns hg0 hr2 qe_5) (hLC.in hg0 (by decide)) (by decide) rfl rfl rfl hl.1 rfl (Nat.le_of_ble_eq_true rfl) ⟨(Nat.le_of_ble_eq_true rfl), (Nat.le_of_ble_eq_true rfl)⟩ ⟨(Nat.le_of_ble_eq_true rfl), (Nat.le_of_ble_eq_true rfl)⟩ dX8_hand_7) ⟨(Nat.le_of_ble_eq_true rfl), (Nat.le_of_ble_eq_true rfl)⟩
  refine r_go1 hH rfl (r_runV (As := [.int (gi x2)]) hM hH cv_X8_136 (mX8_existingProc hLC hM.ns hg0 hr2 qa_6) (hLC.in hg0 (by decide)) (by decide) rfl rfl rfl hl.1 rfl (Nat.le_of_ble_eq_true rfl) ⟨(Nat.le_of_ble_eq_true rfl), (Nat.le_of_ble_eq_true rfl)⟩ ⟨(Nat.le_of_ble_eq_true rfl), (Nat.le_of_ble_eq_true rfl)⟩ dX8_hand_7) (fun hp_4 H locs hH => ?_)
  refine lv_astore_n (lv' := [(3, .ref (w.1 + a_6)), (0, .ref (w.1 + a0)), (1, .int (gi x1)), (2, .int (gi x2))]) hM.fx.1 hM.fx.2.1 dX8_hand_10 rfl hl (by decide) rfl (fun ls hl => ?_)
  refine lv_aload_n hM.fx.1 hM.fx.2.1 dX8_hand_11 rfl (lv_at hl 1 rfl) ?_
  refine r_getR hM.fx hM.kf hH hLC fl_X8_10 hg0 gch_8_0 dX8_hand_12 ?_
  refine lv_iload_n hM.fx.1 hM.fx.2.1 dX8_hand_15 rfl (lv_at hl 2 rfl) ?_
  obtain ⟨x_8, ex_8, hf⟩ := gbd hf
  refine r_go1 hH rfl (r_runV (As := [.int (gi x1)]) hM hH cv_X8_203 (mX0_lyingOn hLC hM.ns (hLC.ch hg0 (by decide) gch_8_0) hr1 ex_8) (hLC.in (hLC.ch hg0 (by decide) gch_8_0) (by decide)) (by decide) rfl rfl rfl hl.1 rfl (Nat.le_of_ble_eq_true rfl) ⟨(Nat.le_of_ble_eq_true rfl), (Nat.le_of_ble_eq_true rfl)⟩ ⟨(Nat.le_of_ble_eq_true rfl), (Nat.le_of_ble_eq_true rfl)⟩ dX8_hand_16) (fun hp_7 H locs hH => ?_)
  refine lv_istore (lv' := [(4, .int (gi x_8)), (3, .ref (w.1 + a_6)), (0, .ref (w.1 + a0)), (1, .int (gi x1)), (2, .int (gi x2))]) hM.fx.1 hM.fx.2.1 dX8_hand_19 hl (by decide) rfl (fun ls hl => ?_)
  refine lv_iload hM.fx.1 hM.fx.2.1 dX8_hand_21 (lv_at hl 0 rfl) ?_
  refine lv_iconst (v := gi (-1)) hM.fx.1 hM.fx.2.1 dX8_hand_23 rfl ?_
  refine r_icmp_ne (tgt := 30) hM.fx hp_7 (gcR (k := -1) (by decide)) dX8_hand_24 (by decide) (fun h_9 => ?_) (fun h_9 => ?_)
  · have hf := gneg' h_9 hf
    refine lv_aload_n hM.fx.1 hM.fx.2.1 dX8_hand_30 rfl (lv_at hl 1 rfl) ?_
    refine r_getI hM.fx hM.kf hH fl_X8_151 (hLC.in (hp_4 _ rfl) (by decide)) dX8_hand_31 ?_
    have hr_10 := hH.2.2.i (hLC.in (hp_4 _ rfl) (by decide)).2.2 (by decide : glg 5 10 = false)
    refine lv_iconst (v := gi (-1)) hM.fx.1 hM.fx.2.1 dX8_hand_34 rfl ?_
    refine r_icmp_eq (tgt := 41) hM.fx hr_10 (gcR (k := -1) (by decide)) dX8_hand_35 (by decide) (fun h_11 => ?_) (fun h_11 => ?_)
    · have hf := gpos h_11 hf
      refine lv_aload_n hM.fx.1 hM.fx.2.1 dX8_hand_41 rfl (lv_at hl 2 rfl) ?_
      refine r_getR hM.fx hM.kf hH hLC fl_X8_32 hg0 gch_8_2 dX8_hand_42 ?_
      refine lv_aload_n hM.fx.1 hM.fx.2.1 dX8_hand_45 rfl (lv_at hl 2 rfl) ?_
      refine r_getR hM.fx hM.kf hH hLC fl_X8_10 hg0 gch_8_0 dX8_hand_46 ?_
      obtain ⟨M_13, eM_13, hf⟩ := gbd hf
      refine r_go0 hH rfl (r_runV (As := [.ref (w.1 + (a0 + 1))]) hM hH cv_X8_83 (mX1_remember hLC hM.ns (hLC.ch hg0 (by decide) gch_8_2) (hLC.ch hg0 (by decide) gch_8_0) eM_13) (hLC.in (hLC.ch hg0 (by decide) gch_8_2) (by decide)) (by decide) rfl rfl rfl hl.1 rfl (Nat.le_of_ble_eq_true rfl) ⟨(Nat.le_of_ble_eq_true rfl), (Nat.le_of_ble_eq_true rfl)⟩ ⟨(Nat.le_of_ble_eq_true rfl), (Nat.le_of_ble_eq_true rfl)⟩ dX8_hand_49) (fun hp_12 H locs hH => ?_)
      refine lv_aload_n hM.fx.1 hM.fx.2.1 dX8_hand_52 rfl (lv_at hl 2 rfl) ?_
      refine r_getR hM.fx hM.kf hH hLC fl_X8_10 hg0 gch_8_0 dX8_hand_53 ?_
      refine lv_iload_n hM.fx.1 hM.fx.2.1 dX8_hand_56 rfl (lv_at hl 3 rfl) ?_
      refine lv_iconst (v := gi (-1)) hM.fx.1 hM.fx.2.1 dX8_hand_57 rfl ?_
      obtain ⟨M_15, eM_15, hf⟩ := gbd hf
      refine r_go0 hH rfl (r_runV (As := [.int (gi x1), .int (gi ((-1)))]) hM hH cv_X8_286 (mX0_setOnSlot hLC hM.ns (hLC.ch hg0 (by decide) gch_8_0) hr1 (gcR (k := -1) (by decide)) eM_15) (hLC.in (hLC.ch hg0 (by decide) gch_8_0) (by decide)) (by decide) rfl rfl rfl hl.1 rfl (Nat.le_of_ble_eq_true rfl) ⟨(Nat.le_of_ble_eq_true rfl), (Nat.le_of_ble_eq_true rfl)⟩ ⟨(Nat.le_of_ble_eq_true rfl), (Nat.le_of_ble_eq_true rfl)⟩ dX8_hand_58) (fun hp_14 H locs hH => ?_)
      refine lv_aload_n hM.fx.1 hM.fx.2.1 dX8_hand_61 rfl (lv_at hl 2 rfl) ?_
      refine r_getR hM.fx hM.kf hH hLC fl_X8_10 hg0 gch_8_0 dX8_hand_62 ?_
      refine lv_iload_n hM.fx.1 hM.fx.2.1 dX8_hand_65 rfl (lv_at hl 4 rfl) ?_
      refine lv_iload hM.fx.1 hM.fx.2.1 dX8_hand_66 (lv_at hl 0 rfl) ?_
      obtain ⟨M_17, eM_17, hf⟩ := gbd hf
      refine r_go0 hH rfl (r_runV (As := [.int (gi x2), .int (gi x_8)]) hM hH cv_X8_289 (mX0_setInHand hLC hM.ns (hLC.ch hg0 (by decide) gch_8_0) hr2 hp_7 eM_17) (hLC.in (hLC.ch hg0 (by decide) gch_8_0) (by decide)) (by decide) rfl rfl rfl hl.1 rfl (Nat.le_of_ble_eq_true rfl) ⟨(Nat.le_of_ble_eq_true rfl), (Nat.le_of_ble_eq_true rfl)⟩ ⟨(Nat.le_of_ble_eq_true rfl), (Nat.le_of_ble_eq_true rfl)⟩ dX8_hand_68) (fun hp_16 H locs hH => ?_)
      refine lv_iload hM.fx.1 hM.fx.2.1 dX8_hand_71 (lv_at hl 0 rfl) ?_
      obtain rfl := Option.some.inj hf
      exact r_iret hM hH (fun z hz => by cases hz; exact hp_7) ⟨(Nat.le_of_ble_eq_true rfl), (Nat.le_of_ble_eq_true rfl)⟩ dX8_hand_73
    · have hf := gneg' h_11 hf
      refine lv_bipush (v := gi (-13)) hM.fx.1 hM.fx.2.1 dX8_hand_38 (by decide) ?_
      obtain rfl := Option.some.inj hf
      exact r_iret hM hH (fun z hz => by cases hz; exact (gcR (k := -13) (by decide))) ⟨(Nat.le_of_ble_eq_true rfl), (Nat.le_of_ble_eq_true rfl)⟩ dX8_hand_40
  · have hf := gpos h_9 hf
    refine lv_bipush (v := gi (-12)) hM.fx.1 hM.fx.2.1 dX8_hand_27 (by decide) ?_
    obtain rfl := Option.some.inj hf
    exact r_iret hM hH (fun z hz => by cases hz; exact (gcR (k := -12) (by decide))) ⟨(Nat.le_of_ble_eq_true rfl), (Nat.le_of_ble_eq_true rfl)⟩ dX8_hand_29
def fX8_kill_53 (g : Nat → Nat)  (a0 : Nat) (x1 : Int) (x3 : Int) (xs0 : Int) (M : gMem) : Option ((Nat ⊕ Int) × gMem) :=
  if xs0 = (-1) then (some ((.inr xs0), M)) else ((fX0_setInHand g (a0 + 1) x1 ((-1)) M).bind fun M_3 => (fX0_setOnSlot g (a0 + 1) xs0 x3 M_3).bind fun M_5 => some ((.inr xs0), M_5))
set_option maxHeartbeats 4000000 in
set_option maxRecDepth 100000 in
theorem wX8_kill_53 {w : gW} {n : Nat} {Rm : Nat → Nat → Nat} {g : Nat → Nat} (hLC : gLC g n Rm) {p : Program} {l : Launch} {e : Env} {s : State} {m : MethodId} {args : Array Value} {below : List Frame} {meth : Method} {c : Code} (hM : gMC w p l s m args meth c cX8_kill 5 RX8 (some .int))  : ∀ (a0 : Nat) (x1 : Int) (x3 : Int) (xs0 : Int) (M : gMem) (r : ((Nat ⊕ Int) × gMem)) (hg0 : g a0 = 8) (hr1 : gRI x1) (hr3 : gRI x3) (hrs0 : gRI xs0) (hf : fX8_kill_53 g a0 x1 x3 xs0 M = some r) (H : Heap) (locs : List Loc) (ls : Array Slot) (hH : gH w n Rm M s H locs) (hl : lv_has ls 5 [(0, .ref (w.1 + a0)), (1, .int (gi x1)), (3, .int (gi x3))]), W p l e { frames := 7, cells := 1, slots := 6, locals := 124 } s m args below meth c H locs 1 6 (gQ w n Rm below args s 1 6 (gOcT (fun z => some (.int (gi z))) r.1) r.2 (∀ z, r.1 = .inr z → (gRI z))) (F0 m 53 ls [.int (gi xs0)]) := by
  intro a0 x1 x3 xs0 M r hg0 hr1 hr3 hrs0 hf H locs ls hH hl
  unfold fX8_kill_53 at hf
  refine lv_istore (lv' := [(4, .int (gi xs0)), (0, .ref (w.1 + a0)), (1, .int (gi x1)), (3, .int (gi x3))]) hM.fx.1 hM.fx.2.1 dX8_kill_53 hl (by decide) rfl (fun ls hl => ?_)
  refine lv_iload hM.fx.1 hM.fx.2.1 dX8_kill_55 (lv_at hl 0 rfl) ?_
  refine lv_iconst (v := gi (-1)) hM.fx.1 hM.fx.2.1 dX8_kill_57 rfl ?_
  refine r_icmp_eq (tgt := 80) hM.fx hrs0 (gcR (k := -1) (by decide)) dX8_kill_58 (by decide) (fun h_1 => ?_) (fun h_1 => ?_)
  · have hf := gpos h_1 hf
    refine lv_iload hM.fx.1 hM.fx.2.1 dX8_kill_80 (lv_at hl 0 rfl) ?_
    obtain rfl := Option.some.inj hf
    exact r_iret hM hH (fun z hz => by cases hz; exact hrs0) ⟨(Nat.le_of_ble_eq_true rfl), (Nat.le_of_ble_eq_true rfl)⟩ dX8_kill_82
  · have hf := gneg' h_1 hf
    refine lv_aload_n hM.fx.1 hM.fx.2.1 dX8_kill_61 rfl (lv_at hl 1 rfl) ?_
    refine r_getR hM.fx hM.kf hH hLC fl_X8_10 hg0 gch_8_0 dX8_kill_62 ?_
    refine lv_iload_n hM.fx.1 hM.fx.2.1 dX8_kill_65 rfl (lv_at hl 2 rfl) ?_
    refine lv_iconst (v := gi (-1)) hM.fx.1 hM.fx.2.1 dX8_kill_66 rfl ?_
    obtain ⟨M_3, eM_3, hf⟩ := gbd hf
    refine r_go0 hH rfl (r_runV (As := [.int (gi x1), .int (gi ((-1)))]) hM hH cv_X8_289 (mX0_setInHand hLC hM.ns (hLC.ch hg0 (by decide) gch_8_0) hr1 (gcR (k := -1) (by decide)) eM_3) (hLC.in (hLC.ch hg0 (by decide) gch_8_0) (by decide)) (by decide) rfl rfl rfl hl.1 rfl (Nat.le_of_ble_eq_true rfl) ⟨(Nat.le_of_ble_eq_true rfl), (Nat.le_of_ble_eq_true rfl)⟩ ⟨(Nat.le_of_ble_eq_true rfl), (Nat.le_of_ble_eq_true rfl)⟩ dX8_kill_67) (fun hp_2 H locs hH => ?_)
    refine lv_aload_n hM.fx.1 hM.fx.2.1 dX8_kill_70 rfl (lv_at hl 1 rfl) ?_
    refine r_getR hM.fx hM.kf hH hLC fl_X8_10 hg0 gch_8_0 dX8_kill_71 ?_
    refine lv_iload hM.fx.1 hM.fx.2.1 dX8_kill_74 (lv_at hl 0 rfl) ?_
    refine lv_iload_n hM.fx.1 hM.fx.2.1 dX8_kill_76 rfl (lv_at hl 3 rfl) ?_
    obtain ⟨M_5, eM_5, hf⟩ := gbd hf
    refine r_go0 hH rfl (r_runV (As := [.int (gi xs0), .int (gi x3)]) hM hH cv_X8_286 (mX0_setOnSlot hLC hM.ns (hLC.ch hg0 (by decide) gch_8_0) hrs0 hr3 eM_5) (hLC.in (hLC.ch hg0 (by decide) gch_8_0) (by decide)) (by decide) rfl rfl rfl hl.1 rfl (Nat.le_of_ble_eq_true rfl) ⟨(Nat.le_of_ble_eq_true rfl), (Nat.le_of_ble_eq_true rfl)⟩ ⟨(Nat.le_of_ble_eq_true rfl), (Nat.le_of_ble_eq_true rfl)⟩ dX8_kill_77) (fun hp_4 H locs hH => ?_)
    refine lv_iload hM.fx.1 hM.fx.2.1 dX8_kill_80 (lv_at hl 0 rfl) ?_
    obtain rfl := Option.some.inj hf
    exact r_iret hM hH (fun z hz => by cases hz; exact hrs0) ⟨(Nat.le_of_ble_eq_true rfl), (Nat.le_of_ble_eq_true rfl)⟩ dX8_kill_82
def fX8_kill (g : Nat → Nat) (a0 : Nat) (x1 : Int) (M : gMem) : Option ((Nat ⊕ Int) × gMem) :=
  gtry (fX8_existingProc g a0 x1 M) (fun e_2 => some (.inl e_2, M)) fun a_3 => if M a_3 8 = 0 then ((fX1_remember g (a0 + 131) (a0 + 1) M).bind fun M_7 => gst (gup M_7 a_3 8 1) fun M_8 => gst (M_8 a_3 10) fun x_10 => if x_10 = (-1) then (fX8_kill_53 g a0 x1 x_10 ((-1)) M_8) else ((fX0_lowestEmptySlot g (a0 + 1) M_8).bind fun x_13 => fX8_kill_53 g a0 x1 x_10 x_13 M_8)) else (some ((.inr ((-14))), M))
set_option maxHeartbeats 4000000 in
set_option maxRecDepth 100000 in
theorem mX8_kill {w : gW} {n : Nat} {Rm : Nat → Nat → Nat} {g : Nat → Nat} (hLC : gLC g n Rm) {l : Launch} (hl9 : l.stackTraces = false) {a0 : Nat} {x1 : Int} {M : gMem} {r : ((Nat ⊕ Int) × gMem)} (hg0 : g a0 = 8) (hr1 : gRI x1) (hf : fX8_kill g a0 x1 M = some r) : gMT w n Rm l yX8_kill cX8_kill 5 (some .int) 7 124 1 6 [.ref (w.1 + a0), .int (gi x1)] M (gOcT (fun z => some (.int (gi z))) r.1) r.2 (∀ z, r.1 = .inr z → (gRI z)) := by
  unfold fX8_kill at hf
  refine gMT.of hl9 (by decide +kernel) ((Nat.le_of_ble_eq_true rfl)) ?_
  intro p e s m below meth c hM hH ls hl
  have hM : gMC w p l s m ([.ref (w.1 + a0), .int (gi x1)] : List Value).toArray meth c cX8_kill 5 RX8 (some .int) := hM
  have hl : lv_has ls 5 [(0, .ref (w.1 + a0)), (1, .int (gi x1))] := hl
  refine lv_aload_n hM.fx.1 hM.fx.2.1 dX8_kill_0 rfl (lv_at hl 0 rfl) ?_
  refine lv_iload_n hM.fx.1 hM.fx.2.1 dX8_kill_1 rfl (lv_at hl 1 rfl) ?_
  rcases gtry_s hf with ⟨e_2, qe_2, hf⟩ | ⟨a_3, qa_3, hf⟩
  · obtain rfl := Option.some.inj hf
    exact r_goX hM hH rfl (r_runV (As := [.int (gi x1)]) hM hH cv_X8_136 (mX8_existingProc hLC hM.ns hg0 hr1 qe_2) (hLC.in hg0 (by decide)) (by decide) rfl rfl rfl hl.1 rfl (Nat.le_of_ble_eq_true rfl) ⟨(Nat.le_of_ble_eq_true rfl), (Nat.le_of_ble_eq_true rfl)⟩ ⟨(Nat.le_of_ble_eq_true rfl), (Nat.le_of_ble_eq_true rfl)⟩ dX8_kill_2) ⟨(Nat.le_of_ble_eq_true rfl), (Nat.le_of_ble_eq_true rfl)⟩
  refine r_go1 hH rfl (r_runV (As := [.int (gi x1)]) hM hH cv_X8_136 (mX8_existingProc hLC hM.ns hg0 hr1 qa_3) (hLC.in hg0 (by decide)) (by decide) rfl rfl rfl hl.1 rfl (Nat.le_of_ble_eq_true rfl) ⟨(Nat.le_of_ble_eq_true rfl), (Nat.le_of_ble_eq_true rfl)⟩ ⟨(Nat.le_of_ble_eq_true rfl), (Nat.le_of_ble_eq_true rfl)⟩ dX8_kill_2) (fun hp_1 H locs hH => ?_)
  refine lv_astore_n (lv' := [(2, .ref (w.1 + a_3)), (0, .ref (w.1 + a0)), (1, .int (gi x1))]) hM.fx.1 hM.fx.2.1 dX8_kill_5 rfl hl (by decide) rfl (fun ls hl => ?_)
  refine lv_aload_n hM.fx.1 hM.fx.2.1 dX8_kill_6 rfl (lv_at hl 0 rfl) ?_
  refine r_getI hM.fx hM.kf hH fl_X8_140 (hLC.in (hp_1 _ rfl) (by decide)) dX8_kill_7 ?_
  have hr_4 := hH.2.2.i (hLC.in (hp_1 _ rfl) (by decide)).2.2 (by decide : glg 5 8 = false)
  refine r_if_eq (tgt := 16) hM.fx hr_4 dX8_kill_10 (by decide) (fun h_5 => ?_) (fun h_5 => ?_)
  · have hf := gpos h_5 hf
    refine lv_aload_n hM.fx.1 hM.fx.2.1 dX8_kill_16 rfl (lv_at hl 1 rfl) ?_
    refine r_getR hM.fx hM.kf hH hLC fl_X8_32 hg0 gch_8_2 dX8_kill_17 ?_
    refine lv_aload_n hM.fx.1 hM.fx.2.1 dX8_kill_20 rfl (lv_at hl 1 rfl) ?_
    refine r_getR hM.fx hM.kf hH hLC fl_X8_10 hg0 gch_8_0 dX8_kill_21 ?_
    obtain ⟨M_7, eM_7, hf⟩ := gbd hf
    refine r_go0 hH rfl (r_runV (As := [.ref (w.1 + (a0 + 1))]) hM hH cv_X8_83 (mX1_remember hLC hM.ns (hLC.ch hg0 (by decide) gch_8_2) (hLC.ch hg0 (by decide) gch_8_0) eM_7) (hLC.in (hLC.ch hg0 (by decide) gch_8_2) (by decide)) (by decide) rfl rfl rfl hl.1 rfl (Nat.le_of_ble_eq_true rfl) ⟨(Nat.le_of_ble_eq_true rfl), (Nat.le_of_ble_eq_true rfl)⟩ ⟨(Nat.le_of_ble_eq_true rfl), (Nat.le_of_ble_eq_true rfl)⟩ dX8_kill_24) (fun hp_6 H locs hH => ?_)
    refine lv_aload_n hM.fx.1 hM.fx.2.1 dX8_kill_27 rfl (lv_at hl 0 rfl) ?_
    refine lv_iconst (v := gi (1)) hM.fx.1 hM.fx.2.1 dX8_kill_28 rfl ?_
    refine r_putI hM.fx hM.kf hH fp_X8_140 (hLC.in (hp_1 _ rfl) (by decide)) (gcR (k := 1) (by decide)) dX8_kill_29 (fun H locs hH => ?_)
    obtain ⟨M_8, eM_8, hf⟩ := gst_s hf
    rw [← eM_8] at hH
    refine lv_aload_n hM.fx.1 hM.fx.2.1 dX8_kill_32 rfl (lv_at hl 0 rfl) ?_
    refine r_getI hM.fx hM.kf hH fl_X8_151 (hLC.in (hp_1 _ rfl) (by decide)) dX8_kill_33 ?_
    have hr_9 := hH.2.2.i (hLC.in (hp_1 _ rfl) (by decide)).2.2 (by decide : glg 5 10 = false)
    obtain ⟨x_10, ex_10, hf⟩ := gst_s hf
    refine W.eq (g2 := F0 m _ ls (.int (gi x_10) :: _)) (by rw [ex_10]) ?_
    have hx_10 : gRI x_10 := by rw [ex_10]; exact hr_9
    refine lv_istore_n (lv' := [(3, .int (gi x_10)), (2, .ref (w.1 + a_3)), (0, .ref (w.1 + a0)), (1, .int (gi x1))]) hM.fx.1 hM.fx.2.1 dX8_kill_36 rfl hl (by decide) rfl (fun ls hl => ?_)
    refine lv_iload_n hM.fx.1 hM.fx.2.1 dX8_kill_37 rfl (lv_at hl 0 rfl) ?_
    refine lv_iconst (v := gi (-1)) hM.fx.1 hM.fx.2.1 dX8_kill_38 rfl ?_
    refine r_icmp_ne (tgt := 46) hM.fx hx_10 (gcR (k := -1) (by decide)) dX8_kill_39 (by decide) (fun h_11 => ?_) (fun h_11 => ?_)
    · have hf := gneg' h_11 hf
      refine lv_aload_n hM.fx.1 hM.fx.2.1 dX8_kill_46 rfl (lv_at hl 2 rfl) ?_
      refine r_getR hM.fx hM.kf hH hLC fl_X8_10 hg0 gch_8_0 dX8_kill_47 ?_
      obtain ⟨x_13, ex_13, hf⟩ := gbd hf
      refine r_go1 hH rfl (r_runV (As := []) hM hH cv_X8_292 (mX0_lowestEmptySlot hLC hM.ns (hLC.ch hg0 (by decide) gch_8_0) ex_13) (hLC.in (hLC.ch hg0 (by decide) gch_8_0) (by decide)) (by decide) rfl rfl rfl hl.1 rfl (Nat.le_of_ble_eq_true rfl) ⟨(Nat.le_of_ble_eq_true rfl), (Nat.le_of_ble_eq_true rfl)⟩ ⟨(Nat.le_of_ble_eq_true rfl), (Nat.le_of_ble_eq_true rfl)⟩ dX8_kill_50) (fun hp_12 H locs hH => ?_)
      exact wX8_kill_53 hLC hM   _ _ _ _ _ _ hg0 hr1 hx_10 hp_12 hf _ _ _ hH (lv_sub hl [2, 3, 0] rfl)
    · have hf := gpos h_11 hf
      refine lv_iconst (v := gi (-1)) hM.fx.1 hM.fx.2.1 dX8_kill_42 rfl ?_
      refine lv_goto (tgt := 53) hM.fx.1 hM.fx.2.1 dX8_kill_43 (by decide) ?_
      exact wX8_kill_53 hLC hM   _ _ _ _ _ _ hg0 hr1 hx_10 (gcR (k := -1) (by decide)) hf _ _ _ hH (lv_sub hl [2, 3, 0] rfl)
  · have hf := gneg' h_5 hf
    refine lv_bipush (v := gi (-14)) hM.fx.1 hM.fx.2.1 dX8_kill_13 (by decide) ?_
    obtain rfl := Option.some.inj hf
    exact r_iret hM hH (fun z hz => by cases hz; exact (gcR (k := -14) (by decide))) ⟨(Nat.le_of_ble_eq_true rfl), (Nat.le_of_ble_eq_true rfl)⟩ dX8_kill_15
def fX8_wake (g : Nat → Nat) (a0 : Nat) (x1 : Int) (M : gMem) : Option ((Nat ⊕ Int) × gMem) :=
  gtry (fX8_existingProc g a0 x1 M) (fun e_2 => some (.inl e_2, M)) fun a_3 => if M a_3 8 = 0 then (some ((.inr ((-15))), M)) else ((fX1_remember g (a0 + 131) (a0 + 1) M).bind fun M_7 => gst (M_7 a_3 8) fun x_9 => gst (gup M_7 a_3 8 0) fun M_10 => gst (gup M_10 a_3 7 0) fun M_11 => gst (gup M_11 a_3 9 0) fun M_12 => some ((.inr x_9), M_12))
set_option maxHeartbeats 4000000 in
set_option maxRecDepth 100000 in
theorem mX8_wake {w : gW} {n : Nat} {Rm : Nat → Nat → Nat} {g : Nat → Nat} (hLC : gLC g n Rm) {l : Launch} (hl9 : l.stackTraces = false) {a0 : Nat} {x1 : Int} {M : gMem} {r : ((Nat ⊕ Int) × gMem)} (hg0 : g a0 = 8) (hr1 : gRI x1) (hf : fX8_wake g a0 x1 M = some r) : gMT w n Rm l yX8_wake cX8_wake 4 (some .int) 7 124 1 6 [.ref (w.1 + a0), .int (gi x1)] M (gOcT (fun z => some (.int (gi z))) r.1) r.2 (∀ z, r.1 = .inr z → (gRI z)) := by
  unfold fX8_wake at hf
  refine gMT.of hl9 (by decide +kernel) ((Nat.le_of_ble_eq_true rfl)) ?_
  intro p e s m below meth c hM hH ls hl
  have hM : gMC w p l s m ([.ref (w.1 + a0), .int (gi x1)] : List Value).toArray meth c cX8_wake 4 RX8 (some .int) := hM
  have hl : lv_has ls 4 [(0, .ref (w.1 + a0)), (1, .int (gi x1))] := hl
  refine lv_aload_n hM.fx.1 hM.fx.2.1 dX8_wake_0 rfl (lv_at hl 0 rfl) ?_
  refine lv_iload_n hM.fx.1 hM.fx.2.1 dX8_wake_1 rfl (lv_at hl 1 rfl) ?_
  rcases gtry_s hf with ⟨e_2, qe_2, hf⟩ | ⟨a_3, qa_3, hf⟩
  · obtain rfl := Option.some.inj hf
    exact r_goX hM hH rfl (r_runV (As := [.int (gi x1)]) hM hH cv_X8_136 (mX8_existingProc hLC hM.ns hg0 hr1 qe_2) (hLC.in hg0 (by decide)) (by decide) rfl rfl rfl hl.1 rfl (Nat.le_of_ble_eq_true rfl) ⟨(Nat.le_of_ble_eq_true rfl), (Nat.le_of_ble_eq_true rfl)⟩ ⟨(Nat.le_of_ble_eq_true rfl), (Nat.le_of_ble_eq_true rfl)⟩ dX8_wake_2) ⟨(Nat.le_of_ble_eq_true rfl), (Nat.le_of_ble_eq_true rfl)⟩
  refine r_go1 hH rfl (r_runV (As := [.int (gi x1)]) hM hH cv_X8_136 (mX8_existingProc hLC hM.ns hg0 hr1 qa_3) (hLC.in hg0 (by decide)) (by decide) rfl rfl rfl hl.1 rfl (Nat.le_of_ble_eq_true rfl) ⟨(Nat.le_of_ble_eq_true rfl), (Nat.le_of_ble_eq_true rfl)⟩ ⟨(Nat.le_of_ble_eq_true rfl), (Nat.le_of_ble_eq_true rfl)⟩ dX8_wake_2) (fun hp_1 H locs hH => ?_)
  refine lv_astore_n (lv' := [(2, .ref (w.1 + a_3)), (0, .ref (w.1 + a0)), (1, .int (gi x1))]) hM.fx.1 hM.fx.2.1 dX8_wake_5 rfl hl (by decide) rfl (fun ls hl => ?_)
  refine lv_aload_n hM.fx.1 hM.fx.2.1 dX8_wake_6 rfl (lv_at hl 0 rfl) ?_
  refine r_getI hM.fx hM.kf hH fl_X8_140 (hLC.in (hp_1 _ rfl) (by decide)) dX8_wake_7 ?_
  have hr_4 := hH.2.2.i (hLC.in (hp_1 _ rfl) (by decide)).2.2 (by decide : glg 5 8 = false)
  refine r_if_ne (tgt := 16) hM.fx hr_4 dX8_wake_10 (by decide) (fun h_5 => ?_) (fun h_5 => ?_)
  · have hf := gneg' h_5 hf
    refine lv_aload_n hM.fx.1 hM.fx.2.1 dX8_wake_16 rfl (lv_at hl 1 rfl) ?_
    refine r_getR hM.fx hM.kf hH hLC fl_X8_32 hg0 gch_8_2 dX8_wake_17 ?_
    refine lv_aload_n hM.fx.1 hM.fx.2.1 dX8_wake_20 rfl (lv_at hl 1 rfl) ?_
    refine r_getR hM.fx hM.kf hH hLC fl_X8_10 hg0 gch_8_0 dX8_wake_21 ?_
    obtain ⟨M_7, eM_7, hf⟩ := gbd hf
    refine r_go0 hH rfl (r_runV (As := [.ref (w.1 + (a0 + 1))]) hM hH cv_X8_83 (mX1_remember hLC hM.ns (hLC.ch hg0 (by decide) gch_8_2) (hLC.ch hg0 (by decide) gch_8_0) eM_7) (hLC.in (hLC.ch hg0 (by decide) gch_8_2) (by decide)) (by decide) rfl rfl rfl hl.1 rfl (Nat.le_of_ble_eq_true rfl) ⟨(Nat.le_of_ble_eq_true rfl), (Nat.le_of_ble_eq_true rfl)⟩ ⟨(Nat.le_of_ble_eq_true rfl), (Nat.le_of_ble_eq_true rfl)⟩ dX8_wake_24) (fun hp_6 H locs hH => ?_)
    refine lv_aload_n hM.fx.1 hM.fx.2.1 dX8_wake_27 rfl (lv_at hl 0 rfl) ?_
    refine r_getI hM.fx hM.kf hH fl_X8_140 (hLC.in (hp_1 _ rfl) (by decide)) dX8_wake_28 ?_
    have hr_8 := hH.2.2.i (hLC.in (hp_1 _ rfl) (by decide)).2.2 (by decide : glg 5 8 = false)
    obtain ⟨x_9, ex_9, hf⟩ := gst_s hf
    refine W.eq (g2 := F0 m _ ls (.int (gi x_9) :: _)) (by rw [ex_9]) ?_
    have hx_9 : gRI x_9 := by rw [ex_9]; exact hr_8
    refine lv_istore_n (lv' := [(3, .int (gi x_9)), (2, .ref (w.1 + a_3)), (0, .ref (w.1 + a0)), (1, .int (gi x1))]) hM.fx.1 hM.fx.2.1 dX8_wake_31 rfl hl (by decide) rfl (fun ls hl => ?_)
    refine lv_aload_n hM.fx.1 hM.fx.2.1 dX8_wake_32 rfl (lv_at hl 1 rfl) ?_
    refine lv_iconst (v := gi (0)) hM.fx.1 hM.fx.2.1 dX8_wake_33 rfl ?_
    refine r_putI hM.fx hM.kf hH fp_X8_140 (hLC.in (hp_1 _ rfl) (by decide)) (gcR (k := 0) (by decide)) dX8_wake_34 (fun H locs hH => ?_)
    obtain ⟨M_10, eM_10, hf⟩ := gst_s hf
    rw [← eM_10] at hH
    refine lv_aload_n hM.fx.1 hM.fx.2.1 dX8_wake_37 rfl (lv_at hl 1 rfl) ?_
    refine lv_iconst (v := gi (0)) hM.fx.1 hM.fx.2.1 dX8_wake_38 rfl ?_
    refine r_putI hM.fx hM.kf hH fp_X8_148 (hLC.in (hp_1 _ rfl) (by decide)) (gcR (k := 0) (by decide)) dX8_wake_39 (fun H locs hH => ?_)
    obtain ⟨M_11, eM_11, hf⟩ := gst_s hf
    rw [← eM_11] at hH
    refine lv_aload_n hM.fx.1 hM.fx.2.1 dX8_wake_42 rfl (lv_at hl 1 rfl) ?_
    refine lv_iconst (v := gi (0)) hM.fx.1 hM.fx.2.1 dX8_wake_43 rfl ?_
    refine r_putI hM.fx hM.kf hH fp_X8_145 (hLC.in (hp_1 _ rfl) (by decide)) (gcR (k := 0) (by decide)) dX8_wake_44 (fun H locs hH => ?_)
    obtain ⟨M_12, eM_12, hf⟩ := gst_s hf
    rw [← eM_12] at hH
    refine lv_iload_n hM.fx.1 hM.fx.2.1 dX8_wake_47 rfl (lv_at hl 0 rfl) ?_
    obtain rfl := Option.some.inj hf
    exact r_iret hM hH (fun z hz => by cases hz; exact hx_9) ⟨(Nat.le_of_ble_eq_true rfl), (Nat.le_of_ble_eq_true rfl)⟩ dX8_wake_48
  · have hf := gpos h_5 hf
    refine lv_bipush (v := gi (-15)) hM.fx.1 hM.fx.2.1 dX8_wake_13 (by decide) ?_
    obtain rfl := Option.some.inj hf
    exact r_iret hM hH (fun z hz => by cases hz; exact (gcR (k := -15) (by decide))) ⟨(Nat.le_of_ble_eq_true rfl), (Nat.le_of_ble_eq_true rfl)⟩ dX8_wake_15
def fX8_undo (g : Nat → Nat) (a0 : Nat) (M : gMem) : Option ((Nat ⊕ Int) × gMem) :=
  if 0 < M (a0 + 131) 1 then ((fX1_bringBack g (a0 + 131) (a0 + 1) M).bind fun M_4 => some ((.inr (M_4 (a0 + 131) 1)), M_4)) else (some (.inl 1, M))
set_option maxHeartbeats 4000000 in
set_option maxRecDepth 100000 in
theorem mX8_undo {w : gW} {n : Nat} {Rm : Nat → Nat → Nat} {g : Nat → Nat} (hLC : gLC g n Rm) {l : Launch} (hl9 : l.stackTraces = false) {a0 : Nat} {M : gMem} {r : ((Nat ⊕ Int) × gMem)} (hg0 : g a0 = 8) (hf : fX8_undo g a0 M = some r) : gMT w n Rm l yX8_undo cX8_undo 1 (some .int) 6 124 1 6 [.ref (w.1 + a0)] M (gOcT (fun z => some (.int (gi z))) r.1) r.2 (∀ z, r.1 = .inr z → (gRI z)) := by
  unfold fX8_undo at hf
  refine gMT.of hl9 (by decide +kernel) ((Nat.le_of_ble_eq_true rfl)) ?_
  intro p e s m below meth c hM hH ls hl
  have hM : gMC w p l s m ([.ref (w.1 + a0)] : List Value).toArray meth c cX8_undo 1 RX8 (some .int) := hM
  have hl : lv_has ls 1 [(0, .ref (w.1 + a0))] := hl
  refine lv_aload_n hM.fx.1 hM.fx.2.1 dX8_undo_0 rfl (lv_at hl 0 rfl) ?_
  refine r_getR hM.fx hM.kf hH hLC fl_X8_32 hg0 gch_8_2 dX8_undo_1 ?_
  refine r_getI hM.fx hM.kf hH fl_X8_295 (hLC.in (hLC.ch hg0 (by decide) gch_8_2) (by decide)) dX8_undo_4 ?_
  have hr_1 := hH.2.2.i (hLC.in (hLC.ch hg0 (by decide) gch_8_2) (by decide)).2.2 (by decide : glg 2 1 = false)
  refine r_if_gt (tgt := 21) hM.fx hr_1 dX8_undo_7 (by decide) (fun h_2 => ?_) (fun h_2 => ?_)
  · have hf := gpos h_2 hf
    refine lv_aload_n hM.fx.1 hM.fx.2.1 dX8_undo_21 rfl (lv_at hl 0 rfl) ?_
    refine r_getR hM.fx hM.kf hH hLC fl_X8_32 hg0 gch_8_2 dX8_undo_22 ?_
    refine lv_aload_n hM.fx.1 hM.fx.2.1 dX8_undo_25 rfl (lv_at hl 0 rfl) ?_
    refine r_getR hM.fx hM.kf hH hLC fl_X8_10 hg0 gch_8_0 dX8_undo_26 ?_
    obtain ⟨M_4, eM_4, hf⟩ := gbd hf
    refine r_go0 hH rfl (r_runV (As := [.ref (w.1 + (a0 + 1))]) hM hH cv_X8_300 (mX1_bringBack hLC hM.ns (hLC.ch hg0 (by decide) gch_8_2) (hLC.ch hg0 (by decide) gch_8_0) eM_4) (hLC.in (hLC.ch hg0 (by decide) gch_8_2) (by decide)) (by decide) rfl rfl rfl hl.1 rfl (Nat.le_of_ble_eq_true rfl) ⟨(Nat.le_of_ble_eq_true rfl), (Nat.le_of_ble_eq_true rfl)⟩ ⟨(Nat.le_of_ble_eq_true rfl), (Nat.le_of_ble_eq_true rfl)⟩ dX8_undo_29) (fun hp_3 H locs hH => ?_)
    refine lv_aload_n hM.fx.1 hM.fx.2.1 dX8_undo_32 rfl (lv_at hl 0 rfl) ?_
    refine r_getR hM.fx hM.kf hH hLC fl_X8_32 hg0 gch_8_2 dX8_undo_33 ?_
    refine r_getI hM.fx hM.kf hH fl_X8_295 (hLC.in (hLC.ch hg0 (by decide) gch_8_2) (by decide)) dX8_undo_36 ?_
    have hr_5 := hH.2.2.i (hLC.in (hLC.ch hg0 (by decide) gch_8_2) (by decide)).2.2 (by decide : glg 2 1 = false)
    obtain rfl := Option.some.inj hf
    exact r_iret hM hH (fun z hz => by cases hz; exact hr_5) ⟨(Nat.le_of_ble_eq_true rfl), (Nat.le_of_ble_eq_true rfl)⟩ dX8_undo_39
  · have hf := gneg' h_2 hf
    obtain rfl := Option.some.inj hf
    exact r_throwW (i := 36) (text := "there is no change to undo") hM hH th_X8_66_70 rfl hl.1 dX8_undo_10 dX8_undo_13 dX8_undo_14 dX8_undo_17 dX8_undo_20 ⟨(Nat.le_of_ble_eq_true rfl), (Nat.le_of_ble_eq_true rfl), (Nat.le_of_ble_eq_true rfl), (Nat.le_of_ble_eq_true rfl)⟩ ⟨(Nat.le_of_ble_eq_true rfl), (Nat.le_of_ble_eq_true rfl)⟩
def fX8_save (g : Nat → Nat) (a0 : Nat) (x1 : Int) (M : gMem) : Option ((Nat ⊕ Unit) × gMem) :=
  if x1 < 0 then (some (.inl 3, M)) else (if 2 ≤ x1 then (some (.inl 3, M)) else (if x1 < 2 then (if (0 : Int) ≤ x1 ∧ (x1 : Int) < 2 then (fX0_copyFrom g (a0 + 653 + (1 + 65 * x1.toNat)) (a0 + 1) M).bind fun M_6 => if (0 : Int) ≤ x1 ∧ (x1 : Int) < 2 then gst (gup M_6 (a0 + 784) x1.toNat 1) fun M_8 => some ((.inr (())), M_8) else none else none) else (some (.inl 3, M))))
set_option maxHeartbeats 4000000 in
set_option maxRecDepth 100000 in
theorem mX8_save {w : gW} {n : Nat} {Rm : Nat → Nat → Nat} {g : Nat → Nat} (hLC : gLC g n Rm) {l : Launch} (hl9 : l.stackTraces = false) {a0 : Nat} {x1 : Int} {M : gMem} {r : ((Nat ⊕ Unit) × gMem)} (hg0 : g a0 = 8) (hr1 : gRI x1) (hf : fX8_save g a0 x1 M = some r) : gMT w n Rm l yX8_save cX8_save 2 none 6 103 1 6 [.ref (w.1 + a0), .int (gi x1)] M (gOcT (fun _ => none) r.1) r.2 True := by
  unfold fX8_save at hf
  refine gMT.of hl9 (by decide +kernel) ((Nat.le_of_ble_eq_true rfl)) ?_
  intro p e s m below meth c hM hH ls hl
  have hM : gMC w p l s m ([.ref (w.1 + a0), .int (gi x1)] : List Value).toArray meth c cX8_save 2 RX8 none := hM
  have hl : lv_has ls 2 [(0, .ref (w.1 + a0)), (1, .int (gi x1))] := hl
  refine lv_iload_n hM.fx.1 hM.fx.2.1 dX8_save_0 rfl (lv_at hl 1 rfl) ?_
  refine r_if_lt (tgt := 22) hM.fx hr1 dX8_save_1 (by decide) (fun h_1 => ?_) (fun h_1 => ?_)
  · have hf := gpos h_1 hf
    obtain rfl := Option.some.inj hf
    exact r_throwW (i := 37) (text := "no such slot for what is saved") hM hH th_X8_209_213 rfl hl.1 dX8_save_22 dX8_save_25 dX8_save_26 dX8_save_29 dX8_save_32 ⟨(Nat.le_of_ble_eq_true rfl), (Nat.le_of_ble_eq_true rfl), (Nat.le_of_ble_eq_true rfl), (Nat.le_of_ble_eq_true rfl)⟩ ⟨(Nat.le_of_ble_eq_true rfl), (Nat.le_of_ble_eq_true rfl)⟩
  · have hf := gneg' h_1 hf
    refine lv_iload_n hM.fx.1 hM.fx.2.1 dX8_save_4 rfl (lv_at hl 1 rfl) ?_
    refine lv_aload_n hM.fx.1 hM.fx.2.1 dX8_save_5 rfl (lv_at hl 0 rfl) ?_
    refine r_getR hM.fx hM.kf hH hLC fl_X8_36 hg0 gch_8_3 dX8_save_6 ?_
    refine r_alen hM.fx hM.kf hH 6 rfl (hLC.in (hLC.ch hg0 (by decide) gch_8_3) (by decide)) (⟨by decide, by decide⟩ : gAr 54 6) rfl dX8_save_9 ?_
    refine r_icmp_ge (tgt := 22) hM.fx hr1 (gcR (k := 2) (by decide)) dX8_save_10 (by decide) (fun h_2 => ?_) (fun h_2 => ?_)
    · have hf := gpos h_2 hf
      obtain rfl := Option.some.inj hf
      exact r_throwW (i := 37) (text := "no such slot for what is saved") hM hH th_X8_209_213 rfl hl.1 dX8_save_22 dX8_save_25 dX8_save_26 dX8_save_29 dX8_save_32 ⟨(Nat.le_of_ble_eq_true rfl), (Nat.le_of_ble_eq_true rfl), (Nat.le_of_ble_eq_true rfl), (Nat.le_of_ble_eq_true rfl)⟩ ⟨(Nat.le_of_ble_eq_true rfl), (Nat.le_of_ble_eq_true rfl)⟩
    · have hf := gneg' h_2 hf
      refine lv_iload_n hM.fx.1 hM.fx.2.1 dX8_save_13 rfl (lv_at hl 1 rfl) ?_
      refine lv_aload_n hM.fx.1 hM.fx.2.1 dX8_save_14 rfl (lv_at hl 0 rfl) ?_
      refine r_getR hM.fx hM.kf hH hLC fl_X8_40 hg0 gch_8_4 dX8_save_15 ?_
      refine r_alen hM.fx hM.kf hH 2 rfl (hLC.in (hLC.ch hg0 (by decide) gch_8_4) (by decide)) (⟨by decide, by decide⟩ : gAr 50 2) rfl dX8_save_18 ?_
      refine r_icmp_lt (tgt := 33) hM.fx hr1 (gcR (k := 2) (by decide)) dX8_save_19 (by decide) (fun h_3 => ?_) (fun h_3 => ?_)
      · have hf := gpos h_3 hf
        refine lv_aload_n hM.fx.1 hM.fx.2.1 dX8_save_33 rfl (lv_at hl 0 rfl) ?_
        refine r_getR hM.fx hM.kf hH hLC fl_X8_36 hg0 gch_8_3 dX8_save_34 ?_
        refine lv_iload_n hM.fx.1 hM.fx.2.1 dX8_save_37 rfl (lv_at hl 1 rfl) ?_
        obtain ⟨g_4, hf⟩ := gif hf
        refine r_aald hM.fx hM.kf hH hLC 6 rfl (by decide) (hLC.ch hg0 (by decide) gch_8_3) (⟨by decide, by decide⟩ : gAr 54 6) hr1 g_4 (gch_54 (k := (x1).toNat) (by omega)) dX8_save_38 ?_
        refine lv_aload_n hM.fx.1 hM.fx.2.1 dX8_save_39 rfl (lv_at hl 0 rfl) ?_
        refine r_getR hM.fx hM.kf hH hLC fl_X8_10 hg0 gch_8_0 dX8_save_40 ?_
        obtain ⟨M_6, eM_6, hf⟩ := gbd hf
        refine r_go0 hH rfl (r_runV (As := [.ref (w.1 + (a0 + 1))]) hM hH cv_X8_88 (mX0_copyFrom hLC hM.ns (hLC.ch (hLC.ch hg0 (by decide) gch_8_3) (by decide) (gch_54 (k := (x1).toNat) (by omega))) (hLC.ch hg0 (by decide) gch_8_0) eM_6) (hLC.in (hLC.ch (hLC.ch hg0 (by decide) gch_8_3) (by decide) (gch_54 (k := (x1).toNat) (by omega))) (by decide)) (by decide) rfl rfl rfl hl.1 rfl (Nat.le_of_ble_eq_true rfl) ⟨(Nat.le_of_ble_eq_true rfl), (Nat.le_of_ble_eq_true rfl)⟩ ⟨(Nat.le_of_ble_eq_true rfl), (Nat.le_of_ble_eq_true rfl)⟩ dX8_save_43) (fun hp_5 H locs hH => ?_)
        refine lv_aload_n hM.fx.1 hM.fx.2.1 dX8_save_46 rfl (lv_at hl 0 rfl) ?_
        refine r_getR hM.fx hM.kf hH hLC fl_X8_40 hg0 gch_8_4 dX8_save_47 ?_
        refine lv_iload_n hM.fx.1 hM.fx.2.1 dX8_save_50 rfl (lv_at hl 1 rfl) ?_
        refine lv_iconst (v := gi (1)) hM.fx.1 hM.fx.2.1 dX8_save_51 rfl ?_
        obtain ⟨g_7, hf⟩ := gif hf
        refine r_zast hM.fx hM.kf hH (hLC.in (hLC.ch hg0 (by decide) gch_8_4) (by decide)) (⟨by decide, by decide⟩ : gAr 50 2) hr1 g_7 (Or.inr rfl) dX8_save_52 (fun H locs hH => ?_)
        obtain ⟨M_8, eM_8, hf⟩ := gst_s hf
        rw [← eM_8] at hH
        obtain rfl := Option.some.inj hf
        exact r_vret hM hH trivial ⟨(Nat.le_of_ble_eq_true rfl), (Nat.le_of_ble_eq_true rfl)⟩ dX8_save_53
      · have hf := gneg' h_3 hf
        obtain rfl := Option.some.inj hf
        exact r_throwW (i := 37) (text := "no such slot for what is saved") hM hH th_X8_209_213 rfl hl.1 dX8_save_22 dX8_save_25 dX8_save_26 dX8_save_29 dX8_save_32 ⟨(Nat.le_of_ble_eq_true rfl), (Nat.le_of_ble_eq_true rfl), (Nat.le_of_ble_eq_true rfl), (Nat.le_of_ble_eq_true rfl)⟩ ⟨(Nat.le_of_ble_eq_true rfl), (Nat.le_of_ble_eq_true rfl)⟩
def fX8_restore (g : Nat → Nat) (a0 : Nat) (x1 : Int) (M : gMem) : Option ((Nat ⊕ Int) × gMem) :=
  if x1 < 0 then (some (.inl 3, M)) else (if 2 ≤ x1 then (some (.inl 3, M)) else (if x1 < 2 then (if (0 : Int) ≤ x1 ∧ (x1 : Int) < 2 then if M (a0 + 784) x1.toNat = 0 then (some (.inl 1, M)) else ((fX1_remember g (a0 + 131) (a0 + 1) M).bind fun M_8 => if (0 : Int) ≤ x1 ∧ (x1 : Int) < 2 then (fX0_copyFrom g (a0 + 1) (a0 + 653 + (1 + 65 * x1.toNat)) M_8).bind fun M_11 => some ((.inr (M_11 (a0 + 1) 7)), M_11) else none) else none) else (some (.inl 3, M))))
set_option maxHeartbeats 4000000 in
set_option maxRecDepth 100000 in
theorem mX8_restore {w : gW} {n : Nat} {Rm : Nat → Nat → Nat} {g : Nat → Nat} (hLC : gLC g n Rm) {l : Launch} (hl9 : l.stackTraces = false) {a0 : Nat} {x1 : Int} {M : gMem} {r : ((Nat ⊕ Int) × gMem)} (hg0 : g a0 = 8) (hr1 : gRI x1) (hf : fX8_restore g a0 x1 M = some r) : gMT w n Rm l yX8_restore cX8_restore 2 (some .int) 6 124 2 12 [.ref (w.1 + a0), .int (gi x1)] M (gOcT (fun z => some (.int (gi z))) r.1) r.2 (∀ z, r.1 = .inr z → (gRI z)) := by
  unfold fX8_restore at hf
  refine gMT.of hl9 (by decide +kernel) ((Nat.le_of_ble_eq_true rfl)) ?_
  intro p e s m below meth c hM hH ls hl
  have hM : gMC w p l s m ([.ref (w.1 + a0), .int (gi x1)] : List Value).toArray meth c cX8_restore 2 RX8 (some .int) := hM
  have hl : lv_has ls 2 [(0, .ref (w.1 + a0)), (1, .int (gi x1))] := hl
  refine lv_iload_n hM.fx.1 hM.fx.2.1 dX8_restore_0 rfl (lv_at hl 1 rfl) ?_
  refine r_if_lt (tgt := 22) hM.fx hr1 dX8_restore_1 (by decide) (fun h_1 => ?_) (fun h_1 => ?_)
  · have hf := gpos h_1 hf
    obtain rfl := Option.some.inj hf
    exact r_throwW (i := 37) (text := "no such slot for what is saved") hM hH th_X8_209_213 rfl hl.1 dX8_restore_22 dX8_restore_25 dX8_restore_26 dX8_restore_29 dX8_restore_32 ⟨(Nat.le_of_ble_eq_true rfl), (Nat.le_of_ble_eq_true rfl), (Nat.le_of_ble_eq_true rfl), (Nat.le_of_ble_eq_true rfl)⟩ ⟨(Nat.le_of_ble_eq_true rfl), (Nat.le_of_ble_eq_true rfl)⟩
  · have hf := gneg' h_1 hf
    refine lv_iload_n hM.fx.1 hM.fx.2.1 dX8_restore_4 rfl (lv_at hl 1 rfl) ?_
    refine lv_aload_n hM.fx.1 hM.fx.2.1 dX8_restore_5 rfl (lv_at hl 0 rfl) ?_
    refine r_getR hM.fx hM.kf hH hLC fl_X8_36 hg0 gch_8_3 dX8_restore_6 ?_
    refine r_alen hM.fx hM.kf hH 6 rfl (hLC.in (hLC.ch hg0 (by decide) gch_8_3) (by decide)) (⟨by decide, by decide⟩ : gAr 54 6) rfl dX8_restore_9 ?_
    refine r_icmp_ge (tgt := 22) hM.fx hr1 (gcR (k := 2) (by decide)) dX8_restore_10 (by decide) (fun h_2 => ?_) (fun h_2 => ?_)
    · have hf := gpos h_2 hf
      obtain rfl := Option.some.inj hf
      exact r_throwW (i := 37) (text := "no such slot for what is saved") hM hH th_X8_209_213 rfl hl.1 dX8_restore_22 dX8_restore_25 dX8_restore_26 dX8_restore_29 dX8_restore_32 ⟨(Nat.le_of_ble_eq_true rfl), (Nat.le_of_ble_eq_true rfl), (Nat.le_of_ble_eq_true rfl), (Nat.le_of_ble_eq_true rfl)⟩ ⟨(Nat.le_of_ble_eq_true rfl), (Nat.le_of_ble_eq_true rfl)⟩
    · have hf := gneg' h_2 hf
      refine lv_iload_n hM.fx.1 hM.fx.2.1 dX8_restore_13 rfl (lv_at hl 1 rfl) ?_
      refine lv_aload_n hM.fx.1 hM.fx.2.1 dX8_restore_14 rfl (lv_at hl 0 rfl) ?_
      refine r_getR hM.fx hM.kf hH hLC fl_X8_40 hg0 gch_8_4 dX8_restore_15 ?_
      refine r_alen hM.fx hM.kf hH 2 rfl (hLC.in (hLC.ch hg0 (by decide) gch_8_4) (by decide)) (⟨by decide, by decide⟩ : gAr 50 2) rfl dX8_restore_18 ?_
      refine r_icmp_lt (tgt := 33) hM.fx hr1 (gcR (k := 2) (by decide)) dX8_restore_19 (by decide) (fun h_3 => ?_) (fun h_3 => ?_)
      · have hf := gpos h_3 hf
        refine lv_aload_n hM.fx.1 hM.fx.2.1 dX8_restore_33 rfl (lv_at hl 0 rfl) ?_
        refine r_getR hM.fx hM.kf hH hLC fl_X8_40 hg0 gch_8_4 dX8_restore_34 ?_
        refine lv_iload_n hM.fx.1 hM.fx.2.1 dX8_restore_37 rfl (lv_at hl 1 rfl) ?_
        obtain ⟨g_4, hf⟩ := gif hf
        refine r_zald hM.fx hM.kf hH (hLC.in (hLC.ch hg0 (by decide) gch_8_4) (by decide)) (⟨by decide, by decide⟩ : gAr 50 2) hr1 g_4 dX8_restore_38 ?_
        have hr_5 := hH.2.2.i (k := x1.toNat) (hLC.in (hLC.ch hg0 (by decide) gch_8_4) (by decide)).2.2 (glg_a (⟨by decide, by decide⟩ : gAr 50 2))
        refine r_if_ne (tgt := 53) hM.fx hr_5 dX8_restore_39 (by decide) (fun h_6 => ?_) (fun h_6 => ?_)
        · have hf := gneg' h_6 hf
          refine lv_aload_n hM.fx.1 hM.fx.2.1 dX8_restore_53 rfl (lv_at hl 0 rfl) ?_
          refine r_getR hM.fx hM.kf hH hLC fl_X8_32 hg0 gch_8_2 dX8_restore_54 ?_
          refine lv_aload_n hM.fx.1 hM.fx.2.1 dX8_restore_57 rfl (lv_at hl 0 rfl) ?_
          refine r_getR hM.fx hM.kf hH hLC fl_X8_10 hg0 gch_8_0 dX8_restore_58 ?_
          obtain ⟨M_8, eM_8, hf⟩ := gbd hf
          refine r_go0 hH rfl (r_runV (As := [.ref (w.1 + (a0 + 1))]) hM hH cv_X8_83 (mX1_remember hLC hM.ns (hLC.ch hg0 (by decide) gch_8_2) (hLC.ch hg0 (by decide) gch_8_0) eM_8) (hLC.in (hLC.ch hg0 (by decide) gch_8_2) (by decide)) (by decide) rfl rfl rfl hl.1 rfl (Nat.le_of_ble_eq_true rfl) ⟨(Nat.le_of_ble_eq_true rfl), (Nat.le_of_ble_eq_true rfl)⟩ ⟨(Nat.le_of_ble_eq_true rfl), (Nat.le_of_ble_eq_true rfl)⟩ dX8_restore_61) (fun hp_7 H locs hH => ?_)
          refine lv_aload_n hM.fx.1 hM.fx.2.1 dX8_restore_64 rfl (lv_at hl 0 rfl) ?_
          refine r_getR hM.fx hM.kf hH hLC fl_X8_10 hg0 gch_8_0 dX8_restore_65 ?_
          refine lv_aload_n hM.fx.1 hM.fx.2.1 dX8_restore_68 rfl (lv_at hl 0 rfl) ?_
          refine r_getR hM.fx hM.kf hH hLC fl_X8_36 hg0 gch_8_3 dX8_restore_69 ?_
          refine lv_iload_n hM.fx.1 hM.fx.2.1 dX8_restore_72 rfl (lv_at hl 1 rfl) ?_
          obtain ⟨g_9, hf⟩ := gif hf
          refine r_aald hM.fx hM.kf hH hLC 6 rfl (by decide) (hLC.ch hg0 (by decide) gch_8_3) (⟨by decide, by decide⟩ : gAr 54 6) hr1 g_9 (gch_54 (k := (x1).toNat) (by omega)) dX8_restore_73 ?_
          obtain ⟨M_11, eM_11, hf⟩ := gbd hf
          refine r_go0 hH rfl (r_runV (As := [.ref (w.1 + (a0 + 653 + (1 + 65 * x1.toNat)))]) hM hH cv_X8_88 (mX0_copyFrom hLC hM.ns (hLC.ch hg0 (by decide) gch_8_0) (hLC.ch (hLC.ch hg0 (by decide) gch_8_3) (by decide) (gch_54 (k := (x1).toNat) (by omega))) eM_11) (hLC.in (hLC.ch hg0 (by decide) gch_8_0) (by decide)) (by decide) rfl rfl rfl hl.1 rfl (Nat.le_of_ble_eq_true rfl) ⟨(Nat.le_of_ble_eq_true rfl), (Nat.le_of_ble_eq_true rfl)⟩ ⟨(Nat.le_of_ble_eq_true rfl), (Nat.le_of_ble_eq_true rfl)⟩ dX8_restore_74) (fun hp_10 H locs hH => ?_)
          refine lv_aload_n hM.fx.1 hM.fx.2.1 dX8_restore_77 rfl (lv_at hl 0 rfl) ?_
          refine r_getR hM.fx hM.kf hH hLC fl_X8_10 hg0 gch_8_0 dX8_restore_78 ?_
          refine r_getI hM.fx hM.kf hH fl_X8_103 (hLC.in (hLC.ch hg0 (by decide) gch_8_0) (by decide)) dX8_restore_81 ?_
          have hr_12 := hH.2.2.i (hLC.in (hLC.ch hg0 (by decide) gch_8_0) (by decide)).2.2 (by decide : glg 1 7 = false)
          obtain rfl := Option.some.inj hf
          exact r_iret hM hH (fun z hz => by cases hz; exact hr_12) ⟨(Nat.le_of_ble_eq_true rfl), (Nat.le_of_ble_eq_true rfl)⟩ dX8_restore_84
        · have hf := gpos h_6 hf
          obtain rfl := Option.some.inj hf
          exact r_throwW (i := 38) (text := "nothing is saved there") hM hH th_X8_66_70 rfl hl.1 dX8_restore_42 dX8_restore_45 dX8_restore_46 dX8_restore_49 dX8_restore_52 ⟨(Nat.le_of_ble_eq_true rfl), (Nat.le_of_ble_eq_true rfl), (Nat.le_of_ble_eq_true rfl), (Nat.le_of_ble_eq_true rfl)⟩ ⟨(Nat.le_of_ble_eq_true rfl), (Nat.le_of_ble_eq_true rfl)⟩
      · have hf := gneg' h_3 hf
        obtain rfl := Option.some.inj hf
        exact r_throwW (i := 37) (text := "no such slot for what is saved") hM hH th_X8_209_213 rfl hl.1 dX8_restore_22 dX8_restore_25 dX8_restore_26 dX8_restore_29 dX8_restore_32 ⟨(Nat.le_of_ble_eq_true rfl), (Nat.le_of_ble_eq_true rfl), (Nat.le_of_ble_eq_true rfl), (Nat.le_of_ble_eq_true rfl)⟩ ⟨(Nat.le_of_ble_eq_true rfl), (Nat.le_of_ble_eq_true rfl)⟩
def fX8_writeStacks (g : Nat → Nat) (a0 : Nat) (M : gMem) : Option (Int × gMem) :=
  (fX7_writePiles g (a0 + 852) (a0 + 1) M).bind fun M_2 => some (M_2 (a0 + 852) 1, M_2)
set_option maxHeartbeats 4000000 in
set_option maxRecDepth 100000 in
theorem mX8_writeStacks {w : gW} {n : Nat} {Rm : Nat → Nat → Nat} {g : Nat → Nat} (hLC : gLC g n Rm) {l : Launch} (hl9 : l.stackTraces = false) {a0 : Nat} {M : gMem} {r : (Int × gMem)} (hg0 : g a0 = 8) (hf : fX8_writeStacks g a0 M = some r) : gMT w n Rm l yX8_writeStacks cX8_writeStacks 1 (some .int) 5 152 0 0 [.ref (w.1 + a0)] M (.inr (some (.int (gi r.1)))) r.2 (gRI r.1) := by
  unfold fX8_writeStacks at hf
  refine gMT.of hl9 (by decide +kernel) ((Nat.le_of_ble_eq_true rfl)) ?_
  intro p e s m below meth c hM hH ls hl
  have hM : gMC w p l s m ([.ref (w.1 + a0)] : List Value).toArray meth c cX8_writeStacks 1 RX8 (some .int) := hM
  have hl : lv_has ls 1 [(0, .ref (w.1 + a0))] := hl
  refine lv_aload_n hM.fx.1 hM.fx.2.1 dX8_writeStacks_0 rfl (lv_at hl 0 rfl) ?_
  refine r_getR hM.fx hM.kf hH hLC fl_X8_54 hg0 gch_8_6 dX8_writeStacks_1 ?_
  refine lv_aload_n hM.fx.1 hM.fx.2.1 dX8_writeStacks_4 rfl (lv_at hl 0 rfl) ?_
  refine r_getR hM.fx hM.kf hH hLC fl_X8_10 hg0 gch_8_0 dX8_writeStacks_5 ?_
  obtain ⟨M_2, eM_2, hf⟩ := gbd hf
  refine r_go0 hH rfl (r_runV (As := [.ref (w.1 + (a0 + 1))]) hM hH cv_X8_307 (mX7_writePiles hLC hM.ns (hLC.ch hg0 (by decide) gch_8_6) (hLC.ch hg0 (by decide) gch_8_0) eM_2) (hLC.in (hLC.ch hg0 (by decide) gch_8_6) (by decide)) (by decide) rfl rfl rfl hl.1 rfl (Nat.le_of_ble_eq_true rfl) ⟨(Nat.le_of_ble_eq_true rfl), (Nat.le_of_ble_eq_true rfl)⟩ ⟨(Nat.le_of_ble_eq_true rfl), (Nat.le_of_ble_eq_true rfl)⟩ dX8_writeStacks_8) (fun hp_1 H locs hH => ?_)
  refine lv_aload_n hM.fx.1 hM.fx.2.1 dX8_writeStacks_11 rfl (lv_at hl 0 rfl) ?_
  refine r_getR hM.fx hM.kf hH hLC fl_X8_54 hg0 gch_8_6 dX8_writeStacks_12 ?_
  refine r_getI hM.fx hM.kf hH fl_X8_310 (hLC.in (hLC.ch hg0 (by decide) gch_8_6) (by decide)) dX8_writeStacks_15 ?_
  have hr_3 := hH.2.2.i (hLC.in (hLC.ch hg0 (by decide) gch_8_6) (by decide)).2.2 (by decide : glg 7 1 = false)
  obtain rfl := Option.some.inj hf
  exact r_iret hM hH hr_3 ⟨(Nat.le_of_ble_eq_true rfl), (Nat.le_of_ble_eq_true rfl)⟩ dX8_writeStacks_18
def fX8_writtenByte (g : Nat → Nat) (a0 : Nat) (x1 : Int) (M : gMem) : Option (Nat ⊕ Int) :=
  if x1 < 0 then (some (.inl 3)) else (if M (a0 + 852) 1 ≤ x1 then (some (.inl 3)) else (if x1 < 2000 then (if (0 : Int) ≤ x1 ∧ (x1 : Int) < 2000 then some (.inr (M (a0 + 852 + 1) x1.toNat)) else none) else (some (.inl 3))))
set_option maxHeartbeats 4000000 in
set_option maxRecDepth 100000 in
theorem mX8_writtenByte {w : gW} {n : Nat} {Rm : Nat → Nat → Nat} {g : Nat → Nat} (hLC : gLC g n Rm) {l : Launch} (hl9 : l.stackTraces = false) {a0 : Nat} {x1 : Int} {M : gMem} {r : (Nat ⊕ Int)} (hg0 : g a0 = 8) (hr1 : gRI x1) (hf : fX8_writtenByte g a0 x1 M = some r) : gMT w n Rm l yX8_writtenByte cX8_writtenByte 2 (some .int) 6 100 1 6 [.ref (w.1 + a0), .int (gi x1)] M (gOcT (fun z => some (.int (gi z))) r) M (∀ z, r = .inr z → (gRI z)) := by
  unfold fX8_writtenByte at hf
  refine gMT.of hl9 (by decide +kernel) ((Nat.le_of_ble_eq_true rfl)) ?_
  intro p e s m below meth c hM hH ls hl
  have hM : gMC w p l s m ([.ref (w.1 + a0), .int (gi x1)] : List Value).toArray meth c cX8_writtenByte 2 RX8 (some .int) := hM
  have hl : lv_has ls 2 [(0, .ref (w.1 + a0)), (1, .int (gi x1))] := hl
  refine lv_iload_n hM.fx.1 hM.fx.2.1 dX8_writtenByte_0 rfl (lv_at hl 1 rfl) ?_
  refine r_if_lt (tgt := 27) hM.fx hr1 dX8_writtenByte_1 (by decide) (fun h_1 => ?_) (fun h_1 => ?_)
  · have hf := gpos h_1 hf
    obtain rfl := Option.some.inj hf
    exact r_throwW (i := 39) (text := "no such byte") hM hH th_X8_209_213 rfl hl.1 dX8_writtenByte_27 dX8_writtenByte_30 dX8_writtenByte_31 dX8_writtenByte_34 dX8_writtenByte_37 ⟨(Nat.le_of_ble_eq_true rfl), (Nat.le_of_ble_eq_true rfl), (Nat.le_of_ble_eq_true rfl), (Nat.le_of_ble_eq_true rfl)⟩ ⟨(Nat.le_of_ble_eq_true rfl), (Nat.le_of_ble_eq_true rfl)⟩
  · have hf := gneg' h_1 hf
    refine lv_iload_n hM.fx.1 hM.fx.2.1 dX8_writtenByte_4 rfl (lv_at hl 1 rfl) ?_
    refine lv_aload_n hM.fx.1 hM.fx.2.1 dX8_writtenByte_5 rfl (lv_at hl 0 rfl) ?_
    refine r_getR hM.fx hM.kf hH hLC fl_X8_54 hg0 gch_8_6 dX8_writtenByte_6 ?_
    refine r_getI hM.fx hM.kf hH fl_X8_310 (hLC.in (hLC.ch hg0 (by decide) gch_8_6) (by decide)) dX8_writtenByte_9 ?_
    have hr_2 := hH.2.2.i (hLC.in (hLC.ch hg0 (by decide) gch_8_6) (by decide)).2.2 (by decide : glg 7 1 = false)
    refine r_icmp_ge (tgt := 27) hM.fx hr1 hr_2 dX8_writtenByte_12 (by decide) (fun h_3 => ?_) (fun h_3 => ?_)
    · have hf := gpos h_3 hf
      obtain rfl := Option.some.inj hf
      exact r_throwW (i := 39) (text := "no such byte") hM hH th_X8_209_213 rfl hl.1 dX8_writtenByte_27 dX8_writtenByte_30 dX8_writtenByte_31 dX8_writtenByte_34 dX8_writtenByte_37 ⟨(Nat.le_of_ble_eq_true rfl), (Nat.le_of_ble_eq_true rfl), (Nat.le_of_ble_eq_true rfl), (Nat.le_of_ble_eq_true rfl)⟩ ⟨(Nat.le_of_ble_eq_true rfl), (Nat.le_of_ble_eq_true rfl)⟩
    · have hf := gneg' h_3 hf
      refine lv_iload_n hM.fx.1 hM.fx.2.1 dX8_writtenByte_15 rfl (lv_at hl 1 rfl) ?_
      refine lv_aload_n hM.fx.1 hM.fx.2.1 dX8_writtenByte_16 rfl (lv_at hl 0 rfl) ?_
      refine r_getR hM.fx hM.kf hH hLC fl_X8_54 hg0 gch_8_6 dX8_writtenByte_17 ?_
      refine r_getR hM.fx hM.kf hH hLC fl_X8_311 (hLC.ch hg0 (by decide) gch_8_6) gch_7_0 dX8_writtenByte_20 ?_
      refine r_alen hM.fx hM.kf hH 1 rfl (hLC.in (hLC.ch (hLC.ch hg0 (by decide) gch_8_6) (by decide) gch_7_0) (by decide)) (⟨by decide, by decide⟩ : gAr 32017 1) rfl dX8_writtenByte_23 ?_
      refine r_icmp_lt (tgt := 38) hM.fx hr1 (gcR (k := 2000) (by decide)) dX8_writtenByte_24 (by decide) (fun h_4 => ?_) (fun h_4 => ?_)
      · have hf := gpos h_4 hf
        refine lv_aload_n hM.fx.1 hM.fx.2.1 dX8_writtenByte_38 rfl (lv_at hl 0 rfl) ?_
        refine r_getR hM.fx hM.kf hH hLC fl_X8_54 hg0 gch_8_6 dX8_writtenByte_39 ?_
        refine r_getR hM.fx hM.kf hH hLC fl_X8_311 (hLC.ch hg0 (by decide) gch_8_6) gch_7_0 dX8_writtenByte_42 ?_
        refine lv_iload_n hM.fx.1 hM.fx.2.1 dX8_writtenByte_45 rfl (lv_at hl 1 rfl) ?_
        obtain ⟨g_5, hf⟩ := gif hf
        refine r_bald hM.fx hM.kf hH (hLC.in (hLC.ch (hLC.ch hg0 (by decide) gch_8_6) (by decide) gch_7_0) (by decide)) (⟨by decide, by decide⟩ : gAr 32017 1) hr1 g_5 dX8_writtenByte_46 ?_
        have hr_6 := hH.2.2.i (k := x1.toNat) (hLC.in (hLC.ch (hLC.ch hg0 (by decide) gch_8_6) (by decide) gch_7_0) (by decide)).2.2 (glg_a (⟨by decide, by decide⟩ : gAr 32017 1))
        obtain rfl := Option.some.inj hf
        exact r_iret hM hH (fun z hz => by cases hz; exact hr_6) ⟨(Nat.le_of_ble_eq_true rfl), (Nat.le_of_ble_eq_true rfl)⟩ dX8_writtenByte_47
      · have hf := gneg' h_4 hf
        obtain rfl := Option.some.inj hf
        exact r_throwW (i := 39) (text := "no such byte") hM hH th_X8_209_213 rfl hl.1 dX8_writtenByte_27 dX8_writtenByte_30 dX8_writtenByte_31 dX8_writtenByte_34 dX8_writtenByte_37 ⟨(Nat.le_of_ble_eq_true rfl), (Nat.le_of_ble_eq_true rfl), (Nat.le_of_ble_eq_true rfl), (Nat.le_of_ble_eq_true rfl)⟩ ⟨(Nat.le_of_ble_eq_true rfl), (Nat.le_of_ble_eq_true rfl)⟩
def fX9_begins_2 (g : Nat → Nat)  : Nat → Nat → Int → gMem → Option gMem
  | 0, _, _, _ => none
  | fu + 1, a0, x1, M => if 1190 ≤ x1 then (if (0 : Int) ≤ 4 ∧ (4 : Int) < 1190 then gst (gup M (a0 + 1) (4 : Int).toNat ((-1))) fun M_3 => some M_3 else none) else (if (0 : Int) ≤ x1 ∧ (x1 : Int) < 1190 then gst (gup M (a0 + 1) x1.toNat 0) fun M_5 => gst (gwi (x1 + 1)) fun x_6 => fX9_begins_2 g fu a0 x_6 M_5 else none)
set_option maxHeartbeats 4000000 in
set_option maxRecDepth 100000 in
theorem wX9_begins_2 {w : gW} {n : Nat} {Rm : Nat → Nat → Nat} {g : Nat → Nat} (hLC : gLC g n Rm) {p : Program} {l : Launch} {e : Env} {s : State} {m : MethodId} {args : Array Value} {below : List Frame} {meth : Method} {c : Code} (hM : gMC w p l s m args meth c cX9_begins 2 RX9 none)  : ∀ (fu : Nat), ∀ (a0 : Nat) (x1 : Int) (M : gMem) (r : gMem) (hg0 : g a0 = 9) (hr1 : gRI x1) (hf : fX9_begins_2 g fu a0 x1 M = some r) (H : Heap) (locs : List Loc) (ls : Array Slot) (hH : gH w n Rm M s H locs) (hl : lv_has ls 2 [(0, .ref (w.1 + a0)), (1, .int (gi x1))]), W p l e { frames := 1, cells := 0, slots := 0, locals := 60 } s m args below meth c H locs 0 0 (gQ w n Rm below args s 0 0 (.inr none) r True) (F0 m 2 ls []) := by
  intro fu
  induction fu with
  | zero =>
    intro a0 x1 M r hg0 hr1 hf H locs ls hH hl
    exact absurd hf (by simp [fX9_begins_2])
  | succ fu ih =>
    intro a0 x1 M r hg0 hr1 hf H locs ls hH hl
    unfold fX9_begins_2 at hf
    refine lv_iload_n hM.fx.1 hM.fx.2.1 dX9_begins_2 rfl (lv_at hl 1 rfl) ?_
    refine lv_sipush (v := gi (1190)) hM.fx.1 hM.fx.2.1 dX9_begins_3 (by decide) ?_
    refine r_icmp_ge (tgt := 22) hM.fx hr1 (gcR (k := 1190) (by decide)) dX9_begins_6 (by decide) (fun h_1 => ?_) (fun h_1 => ?_)
    · have hf := gpos h_1 hf
      refine lv_aload_n hM.fx.1 hM.fx.2.1 dX9_begins_22 rfl (lv_at hl 0 rfl) ?_
      refine r_getR hM.fx hM.kf hH hLC fl_X9_7 hg0 gch_9_0 dX9_begins_23 ?_
      refine lv_iconst (v := gi (4)) hM.fx.1 hM.fx.2.1 dX9_begins_26 rfl ?_
      refine lv_iconst (v := gi (-1)) hM.fx.1 hM.fx.2.1 dX9_begins_27 rfl ?_
      obtain ⟨g_2, hf⟩ := gif hf
      refine r_iast hM.fx hM.kf hH (hLC.in (hLC.ch hg0 (by decide) gch_9_0) (by decide)) (⟨by decide, by decide⟩ : gAr 19056 0) (gcR (k := 4) (by decide)) g_2 (gcR (k := -1) (by decide)) dX9_begins_28 (fun H locs hH => ?_)
      obtain ⟨M_3, eM_3, hf⟩ := gst_s hf
      rw [← eM_3] at hH
      obtain rfl := Option.some.inj hf
      exact r_vret hM hH trivial ⟨(Nat.le_of_ble_eq_true rfl), (Nat.le_of_ble_eq_true rfl)⟩ dX9_begins_29
    · have hf := gneg' h_1 hf
      refine lv_aload_n hM.fx.1 hM.fx.2.1 dX9_begins_9 rfl (lv_at hl 0 rfl) ?_
      refine r_getR hM.fx hM.kf hH hLC fl_X9_7 hg0 gch_9_0 dX9_begins_10 ?_
      refine lv_iload_n hM.fx.1 hM.fx.2.1 dX9_begins_13 rfl (lv_at hl 1 rfl) ?_
      refine lv_iconst (v := gi (0)) hM.fx.1 hM.fx.2.1 dX9_begins_14 rfl ?_
      obtain ⟨g_4, hf⟩ := gif hf
      refine r_iast hM.fx hM.kf hH (hLC.in (hLC.ch hg0 (by decide) gch_9_0) (by decide)) (⟨by decide, by decide⟩ : gAr 19056 0) hr1 g_4 (gcR (k := 0) (by decide)) dX9_begins_15 (fun H locs hH => ?_)
      obtain ⟨M_5, eM_5, hf⟩ := gst_s hf
      rw [← eM_5] at hH
      obtain ⟨x_6, ex_6, hf⟩ := gst_s hf
      have hx_6 : gRI x_6 := by rw [ex_6]; exact gwi_r _
      refine r_iinc (lv' := [(1, .int (gi x_6)), (0, .ref (w.1 + a0))]) hM.fx dX9_begins_16 hl (k := 1) rfl (by decide) (by rw [ex_6]; rfl) (fun ls hl => ?_)
      refine lv_goto (tgt := 2) hM.fx.1 hM.fx.2.1 dX9_begins_19 (by decide) ?_
      exact ih _ _ _ _ hg0 hx_6 hf _ _ _ hH (lv_sub hl [1, 0] rfl)
def fX9_begins (g : Nat → Nat) (a0 : Nat) (M : gMem) : Option gMem :=
  fX9_begins_2 g gF a0 0 M
set_option maxHeartbeats 4000000 in
set_option maxRecDepth 100000 in
theorem mX9_begins {w : gW} {n : Nat} {Rm : Nat → Nat → Nat} {g : Nat → Nat} (hLC : gLC g n Rm) {l : Launch} (hl9 : l.stackTraces = false) {a0 : Nat} {M : gMem} {r : gMem} (hg0 : g a0 = 9) (hf : fX9_begins g a0 M = some r) : gMT w n Rm l yX9_begins cX9_begins 2 none 1 60 0 0 [.ref (w.1 + a0)] M (.inr none) r True := by
  unfold fX9_begins at hf
  refine gMT.of hl9 (by decide +kernel) ((Nat.le_of_ble_eq_true rfl)) ?_
  intro p e s m below meth c hM hH ls hl
  have hM : gMC w p l s m ([.ref (w.1 + a0)] : List Value).toArray meth c cX9_begins 2 RX9 none := hM
  have hl : lv_has ls 2 [(0, .ref (w.1 + a0))] := hl
  refine lv_iconst (v := gi (0)) hM.fx.1 hM.fx.2.1 dX9_begins_0 rfl ?_
  refine lv_istore_n (lv' := [(1, .int (gi 0)), (0, .ref (w.1 + a0))]) hM.fx.1 hM.fx.2.1 dX9_begins_1 rfl hl (by decide) rfl (fun ls hl => ?_)
  exact wX9_begins_2 hLC hM  gF _ _ _ _ hg0 (gcR (k := 0) (by decide)) hf _ _ _ hH (lv_sub hl [1, 0] rfl)
def fX9_thrown (g : Nat → Nat) (a0 : Nat) (M : gMem) : Option Int :=
  some (M a0 7)
set_option maxHeartbeats 4000000 in
set_option maxRecDepth 100000 in
theorem mX9_thrown {w : gW} {n : Nat} {Rm : Nat → Nat → Nat} {g : Nat → Nat} (hLC : gLC g n Rm) {l : Launch} (hl9 : l.stackTraces = false) {a0 : Nat} {M : gMem} {r : Int} (hg0 : g a0 = 9) (hf : fX9_thrown g a0 M = some r) : gMT w n Rm l yX9_thrown cX9_thrown 1 (some .int) 1 60 0 0 [.ref (w.1 + a0)] M (.inr (some (.int (gi r)))) M (gRI r) := by
  unfold fX9_thrown at hf
  refine gMT.of hl9 (by decide +kernel) ((Nat.le_of_ble_eq_true rfl)) ?_
  intro p e s m below meth c hM hH ls hl
  have hM : gMC w p l s m ([.ref (w.1 + a0)] : List Value).toArray meth c cX9_thrown 1 RX9 (some .int) := hM
  have hl : lv_has ls 1 [(0, .ref (w.1 + a0))] := hl
  refine lv_aload_n hM.fx.1 hM.fx.2.1 dX9_thrown_0 rfl (lv_at hl 0 rfl) ?_
  refine r_getI hM.fx hM.kf hH fl_X9_46 (hLC.in hg0 (by decide)) dX9_thrown_1 ?_
  have hr_1 := hH.2.2.i (hLC.in hg0 (by decide)).2.2 (by decide : glg 9 7 = false)
  obtain rfl := Option.some.inj hf
  exact r_iret hM hH hr_1 ⟨(Nat.le_of_ble_eq_true rfl), (Nat.le_of_ble_eq_true rfl)⟩ dX9_thrown_4
def fX9_isIn (g : Nat → Nat) (x0 : Int) (x1 : Int) (x2 : Int) : Option Int :=
  if x0 < x1 then (some 0) else (if x2 < x0 then (some 0) else (some 1))
set_option maxHeartbeats 4000000 in
set_option maxRecDepth 100000 in
theorem mX9_isIn {w : gW} {n : Nat} {Rm : Nat → Nat → Nat} {g : Nat → Nat} (hLC : gLC g n Rm) {l : Launch} (hl9 : l.stackTraces = false) {x0 : Int} {x1 : Int} {x2 : Int} {M : gMem} {r : Int} (hr0 : gRI x0) (hr1 : gRI x1) (hr2 : gRI x2) (hf : fX9_isIn g x0 x1 x2 = some r) : gMT w n Rm l yX9_isIn cX9_isIn 3 (some .boolean) 1 60 0 0 [.int (gi x0), .int (gi x1), .int (gi x2)] M (.inr (some (.int (gi r)))) M (r = 0 ∨ r = 1) := by
  unfold fX9_isIn at hf
  refine gMT.of hl9 (by decide +kernel) ((Nat.le_of_ble_eq_true rfl)) ?_
  intro p e s m below meth c hM hH ls hl
  have hM : gMC w p l s m ([.int (gi x0), .int (gi x1), .int (gi x2)] : List Value).toArray meth c cX9_isIn 3 RX9 (some .boolean) := hM
  have hl : lv_has ls 3 [(0, .int (gi x0)), (1, .int (gi x1)), (2, .int (gi x2))] := hl
  refine lv_iload_n hM.fx.1 hM.fx.2.1 dX9_isIn_0 rfl (lv_at hl 0 rfl) ?_
  refine lv_iload_n hM.fx.1 hM.fx.2.1 dX9_isIn_1 rfl (lv_at hl 1 rfl) ?_
  refine r_icmp_lt (tgt := 14) hM.fx hr0 hr1 dX9_isIn_2 (by decide) (fun h_1 => ?_) (fun h_1 => ?_)
  · have hf := gpos h_1 hf
    refine lv_iconst (v := gi (0)) hM.fx.1 hM.fx.2.1 dX9_isIn_14 rfl ?_
    obtain rfl := Option.some.inj hf
    exact r_zret hM hH (Or.inl rfl) (Or.inl rfl) ⟨(Nat.le_of_ble_eq_true rfl), (Nat.le_of_ble_eq_true rfl)⟩ dX9_isIn_15
  · have hf := gneg' h_1 hf
    refine lv_iload_n hM.fx.1 hM.fx.2.1 dX9_isIn_5 rfl (lv_at hl 0 rfl) ?_
    refine lv_iload_n hM.fx.1 hM.fx.2.1 dX9_isIn_6 rfl (lv_at hl 2 rfl) ?_
    refine r_icmp_gt (tgt := 14) hM.fx hr0 hr2 dX9_isIn_7 (by decide) (fun h_2 => ?_) (fun h_2 => ?_)
    · have hf := gpos h_2 hf
      refine lv_iconst (v := gi (0)) hM.fx.1 hM.fx.2.1 dX9_isIn_14 rfl ?_
      obtain rfl := Option.some.inj hf
      exact r_zret hM hH (Or.inl rfl) (Or.inl rfl) ⟨(Nat.le_of_ble_eq_true rfl), (Nat.le_of_ble_eq_true rfl)⟩ dX9_isIn_15
    · have hf := gneg' h_2 hf
      refine lv_iconst (v := gi (1)) hM.fx.1 hM.fx.2.1 dX9_isIn_10 rfl ?_
      refine lv_goto (tgt := 15) hM.fx.1 hM.fx.2.1 dX9_isIn_11 (by decide) ?_
      obtain rfl := Option.some.inj hf
      exact r_zret hM hH (Or.inr rfl) (Or.inr rfl) ⟨(Nat.le_of_ble_eq_true rfl), (Nat.le_of_ble_eq_true rfl)⟩ dX9_isIn_15
def fX9_copies_3 (g : Nat → Nat)  : Nat → Nat → Int → Nat → Int → Int → gMem → Option gMem
  | 0, _, _, _, _, _, _ => none
  | fu + 1, a0, x1, a2, x3, x4, M => if 1190 ≤ x4 then (some M) else (if (0 : Int) ≤ gwi (x3 + x4) ∧ (gwi (x3 + x4) : Int) < ((g a2 / 16 - 1 : Nat) : Int) then if (0 : Int) ≤ gwi (x1 + x4) ∧ (gwi (x1 + x4) : Int) < ((g a0 / 16 - 1 : Nat) : Int) then gst (gup M a0 (gwi (x1 + x4)).toNat (M a2 (gwi (x3 + x4)).toNat)) fun M_5 => gst (gwi (x4 + 1)) fun x_6 => fX9_copies_3 g fu a0 x1 a2 x3 x_6 M_5 else none else none)
set_option maxHeartbeats 4000000 in
set_option maxRecDepth 100000 in
theorem wX9_copies_3 {w : gW} {n : Nat} {Rm : Nat → Nat → Nat} {g : Nat → Nat} (hLC : gLC g n Rm) {p : Program} {l : Launch} {e : Env} {s : State} {m : MethodId} {args : Array Value} {below : List Frame} {meth : Method} {c : Code} (hM : gMC w p l s m args meth c cX9_copies 5 RX9 none)  : ∀ (fu : Nat), ∀ (a0 : Nat) (x1 : Int) (a2 : Nat) (x3 : Int) (x4 : Int) (M : gMem) (r : gMem) (hg0 : gAr (g a0) 0) (hr1 : gRI x1) (hg2 : gAr (g a2) 0) (hr3 : gRI x3) (hr4 : gRI x4) (hf : fX9_copies_3 g fu a0 x1 a2 x3 x4 M = some r) (H : Heap) (locs : List Loc) (ls : Array Slot) (hH : gH w n Rm M s H locs) (hl : lv_has ls 5 [(0, .ref (w.1 + a0)), (1, .int (gi x1)), (2, .ref (w.1 + a2)), (3, .int (gi x3)), (4, .int (gi x4))]), W p l e { frames := 1, cells := 0, slots := 0, locals := 60 } s m args below meth c H locs 0 0 (gQ w n Rm below args s 0 0 (.inr none) r True) (F0 m 3 ls []) := by
  intro fu
  induction fu with
  | zero =>
    intro a0 x1 a2 x3 x4 M r hg0 hr1 hg2 hr3 hr4 hf H locs ls hH hl
    exact absurd hf (by simp [fX9_copies_3])
  | succ fu ih =>
    intro a0 x1 a2 x3 x4 M r hg0 hr1 hg2 hr3 hr4 hf H locs ls hH hl
    unfold fX9_copies_3 at hf
    refine lv_iload hM.fx.1 hM.fx.2.1 dX9_copies_3 (lv_at hl 4 rfl) ?_
    refine lv_sipush (v := gi (1190)) hM.fx.1 hM.fx.2.1 dX9_copies_5 (by decide) ?_
    refine r_icmp_ge (tgt := 29) hM.fx hr4 (gcR (k := 1190) (by decide)) dX9_copies_8 (by decide) (fun h_1 => ?_) (fun h_1 => ?_)
    · have hf := gpos h_1 hf
      obtain rfl := Option.some.inj hf
      exact r_vret hM hH trivial ⟨(Nat.le_of_ble_eq_true rfl), (Nat.le_of_ble_eq_true rfl)⟩ dX9_copies_29
    · have hf := gneg' h_1 hf
      refine lv_aload_n hM.fx.1 hM.fx.2.1 dX9_copies_11 rfl (lv_at hl 0 rfl) ?_
      refine lv_iload_n hM.fx.1 hM.fx.2.1 dX9_copies_12 rfl (lv_at hl 1 rfl) ?_
      refine lv_iload hM.fx.1 hM.fx.2.1 dX9_copies_13 (lv_at hl 4 rfl) ?_
      refine r_iadd hM.fx dX9_copies_15 ?_
      refine lv_aload_n hM.fx.1 hM.fx.2.1 dX9_copies_16 rfl (lv_at hl 2 rfl) ?_
      refine lv_iload_n hM.fx.1 hM.fx.2.1 dX9_copies_17 rfl (lv_at hl 3 rfl) ?_
      refine lv_iload hM.fx.1 hM.fx.2.1 dX9_copies_18 (lv_at hl 4 rfl) ?_
      refine r_iadd hM.fx dX9_copies_20 ?_
      obtain ⟨g_2, hf⟩ := gif hf
      refine r_iald hM.fx hM.kf hH (hLC.in (t := g a2) rfl (gar_ne hg2)) hg2 (gwi_r _) g_2 dX9_copies_21 ?_
      have hr_3 := hH.2.2.i (k := (gwi (x3 + x4)).toNat) (hLC.in (t := g a2) rfl (gar_ne hg2)).2.2 (glg_a hg2)
      obtain ⟨g_4, hf⟩ := gif hf
      refine r_iast hM.fx hM.kf hH (hLC.in (t := g a0) rfl (gar_ne hg0)) hg0 (gwi_r _) g_4 hr_3 dX9_copies_22 (fun H locs hH => ?_)
      obtain ⟨M_5, eM_5, hf⟩ := gst_s hf
      rw [← eM_5] at hH
      obtain ⟨x_6, ex_6, hf⟩ := gst_s hf
      have hx_6 : gRI x_6 := by rw [ex_6]; exact gwi_r _
      refine r_iinc (lv' := [(4, .int (gi x_6)), (0, .ref (w.1 + a0)), (1, .int (gi x1)), (2, .ref (w.1 + a2)), (3, .int (gi x3))]) hM.fx dX9_copies_23 hl (k := 4) rfl (by decide) (by rw [ex_6]; rfl) (fun ls hl => ?_)
      refine lv_goto (tgt := 3) hM.fx.1 hM.fx.2.1 dX9_copies_26 (by decide) ?_
      exact ih _ _ _ _ _ _ _ hg0 hr1 hg2 hr3 hx_6 hf _ _ _ hH (lv_sub hl [1, 2, 3, 4, 0] rfl)
def fX9_copies (g : Nat → Nat) (a0 : Nat) (x1 : Int) (a2 : Nat) (x3 : Int) (M : gMem) : Option gMem :=
  fX9_copies_3 g gF a0 x1 a2 x3 0 M
set_option maxHeartbeats 4000000 in
set_option maxRecDepth 100000 in
theorem mX9_copies {w : gW} {n : Nat} {Rm : Nat → Nat → Nat} {g : Nat → Nat} (hLC : gLC g n Rm) {l : Launch} (hl9 : l.stackTraces = false) {a0 : Nat} {x1 : Int} {a2 : Nat} {x3 : Int} {M : gMem} {r : gMem} (hg0 : gAr (g a0) 0) (hr1 : gRI x1) (hg2 : gAr (g a2) 0) (hr3 : gRI x3) (hf : fX9_copies g a0 x1 a2 x3 M = some r) : gMT w n Rm l yX9_copies cX9_copies 5 none 1 60 0 0 [.ref (w.1 + a0), .int (gi x1), .ref (w.1 + a2), .int (gi x3)] M (.inr none) r True := by
  unfold fX9_copies at hf
  refine gMT.of hl9 (by decide +kernel) ((Nat.le_of_ble_eq_true rfl)) ?_
  intro p e s m below meth c hM hH ls hl
  have hM : gMC w p l s m ([.ref (w.1 + a0), .int (gi x1), .ref (w.1 + a2), .int (gi x3)] : List Value).toArray meth c cX9_copies 5 RX9 none := hM
  have hl : lv_has ls 5 [(0, .ref (w.1 + a0)), (1, .int (gi x1)), (2, .ref (w.1 + a2)), (3, .int (gi x3))] := hl
  refine lv_iconst (v := gi (0)) hM.fx.1 hM.fx.2.1 dX9_copies_0 rfl ?_
  refine lv_istore (lv' := [(4, .int (gi 0)), (0, .ref (w.1 + a0)), (1, .int (gi x1)), (2, .ref (w.1 + a2)), (3, .int (gi x3))]) hM.fx.1 hM.fx.2.1 dX9_copies_1 hl (by decide) rfl (fun ls hl => ?_)
  exact wX9_copies_3 hLC hM  gF _ _ _ _ _ _ _ hg0 hr1 hg2 hr3 (gcR (k := 0) (by decide)) hf _ _ _ hH (lv_sub hl [1, 2, 3, 4, 0] rfl)
def fX9_keeps_50 (g : Nat → Nat)  (a0 : Nat) (a1 : Nat) (M : gMem) : Option gMem :=
  (fX9_copies g (a0 + 4) (gwi (1190 * M a0 6)) a1 0 M).bind fun M_3 => gst (gup M_3 a0 6 (gwi (M_3 a0 6 + 1))) fun M_5 => some M_5
set_option maxHeartbeats 4000000 in
set_option maxRecDepth 100000 in
theorem wX9_keeps_50 {w : gW} {n : Nat} {Rm : Nat → Nat → Nat} {g : Nat → Nat} (hLC : gLC g n Rm) {p : Program} {l : Launch} {e : Env} {s : State} {m : MethodId} {args : Array Value} {below : List Frame} {meth : Method} {c : Code} (hM : gMC w p l s m args meth c cX9_keeps 3 RX9 none)  : ∀ (a0 : Nat) (a1 : Nat) (M : gMem) (r : gMem) (hg0 : g a0 = 9) (hg1 : gAr (g a1) 0) (hf : fX9_keeps_50 g a0 a1 M = some r) (H : Heap) (locs : List Loc) (ls : Array Slot) (hH : gH w n Rm M s H locs) (hl : lv_has ls 3 [(0, .ref (w.1 + a0)), (1, .ref (w.1 + a1))]), W p l e { frames := 2, cells := 0, slots := 0, locals := 84 } s m args below meth c H locs 0 0 (gQ w n Rm below args s 0 0 (.inr none) r True) (F0 m 50 ls []) := by
  intro a0 a1 M r hg0 hg1 hf H locs ls hH hl
  unfold fX9_keeps_50 at hf
  refine lv_aload_n hM.fx.1 hM.fx.2.1 dX9_keeps_50 rfl (lv_at hl 0 rfl) ?_
  refine r_getR hM.fx hM.kf hH hLC fl_X9_19 hg0 gch_9_3 dX9_keeps_51 ?_
  refine lv_sipush (v := gi (1190)) hM.fx.1 hM.fx.2.1 dX9_keeps_54 (by decide) ?_
  refine lv_aload_n hM.fx.1 hM.fx.2.1 dX9_keeps_57 rfl (lv_at hl 0 rfl) ?_
  refine r_getI hM.fx hM.kf hH fl_X9_49 (hLC.in hg0 (by decide)) dX9_keeps_58 ?_
  have hr_1 := hH.2.2.i (hLC.in hg0 (by decide)).2.2 (by decide : glg 9 6 = false)
  refine r_imul hM.fx dX9_keeps_61 ?_
  refine lv_aload_n hM.fx.1 hM.fx.2.1 dX9_keeps_62 rfl (lv_at hl 1 rfl) ?_
  refine lv_iconst (v := gi (0)) hM.fx.1 hM.fx.2.1 dX9_keeps_63 rfl ?_
  obtain ⟨M_3, eM_3, hf⟩ := gbd hf
  refine r_go0 hH rfl (r_runS (As := [.ref (w.1 + (a0 + 4)), .int (gi (gwi (1190 * M a0 6))), .ref (w.1 + a1), .int (gi 0)]) hM hH cs_X9_52 (mX9_copies hLC hM.ns (by rw [(hLC.ch hg0 (by decide) gch_9_3)]; exact (⟨by decide, by decide⟩ : gAr 152336 0)) (gwi_r _) hg1 (gcR (k := 0) (by decide)) eM_3) rfl hl.1 rfl (Nat.le_of_ble_eq_true rfl) ⟨(Nat.le_of_ble_eq_true rfl), (Nat.le_of_ble_eq_true rfl)⟩ ⟨(Nat.le_of_ble_eq_true rfl), (Nat.le_of_ble_eq_true rfl)⟩ dX9_keeps_64) (fun hp_2 H locs hH => ?_)
  refine lv_aload_n hM.fx.1 hM.fx.2.1 dX9_keeps_67 rfl (lv_at hl 0 rfl) ?_
  refine lv_dup hM.fx.1 hM.fx.2.1 dX9_keeps_68 rfl ?_
  refine r_getI hM.fx hM.kf hH fl_X9_49 (hLC.in hg0 (by decide)) dX9_keeps_69 ?_
  have hr_4 := hH.2.2.i (hLC.in hg0 (by decide)).2.2 (by decide : glg 9 6 = false)
  refine lv_iconst (v := gi (1)) hM.fx.1 hM.fx.2.1 dX9_keeps_72 rfl ?_
  refine r_iadd hM.fx dX9_keeps_73 ?_
  refine r_putI hM.fx hM.kf hH fp_X9_49 (hLC.in hg0 (by decide)) (gwi_r _) dX9_keeps_74 (fun H locs hH => ?_)
  obtain ⟨M_5, eM_5, hf⟩ := gst_s hf
  rw [← eM_5] at hH
  obtain rfl := Option.some.inj hf
  exact r_vret hM hH trivial ⟨(Nat.le_of_ble_eq_true rfl), (Nat.le_of_ble_eq_true rfl)⟩ dX9_keeps_77
def fX9_keeps_11 (g : Nat → Nat)  : Nat → Nat → Nat → Int → gMem → Option gMem
  | 0, _, _, _, _ => none
  | fu + 1, a0, a1, x2, M => if 8330 ≤ x2 then (gst (gup M a0 6 (gwi (M a0 6 - 1))) fun M_3 => fX9_keeps_50 g a0 a1 M_3) else (if (0 : Int) ≤ gwi (x2 + 1190) ∧ (gwi (x2 + 1190) : Int) < 9520 then if (0 : Int) ≤ x2 ∧ (x2 : Int) < 9520 then gst (gup M (a0 + 4) x2.toNat (M (a0 + 4) (gwi (x2 + 1190)).toNat)) fun M_7 => gst (gwi (x2 + 1)) fun x_8 => fX9_keeps_11 g fu a0 a1 x_8 M_7 else none else none)
set_option maxHeartbeats 4000000 in
set_option maxRecDepth 100000 in
theorem wX9_keeps_11 {w : gW} {n : Nat} {Rm : Nat → Nat → Nat} {g : Nat → Nat} (hLC : gLC g n Rm) {p : Program} {l : Launch} {e : Env} {s : State} {m : MethodId} {args : Array Value} {below : List Frame} {meth : Method} {c : Code} (hM : gMC w p l s m args meth c cX9_keeps 3 RX9 none)  : ∀ (fu : Nat), ∀ (a0 : Nat) (a1 : Nat) (x2 : Int) (M : gMem) (r : gMem) (hg0 : g a0 = 9) (hg1 : gAr (g a1) 0) (hr2 : gRI x2) (hf : fX9_keeps_11 g fu a0 a1 x2 M = some r) (H : Heap) (locs : List Loc) (ls : Array Slot) (hH : gH w n Rm M s H locs) (hl : lv_has ls 3 [(0, .ref (w.1 + a0)), (1, .ref (w.1 + a1)), (2, .int (gi x2))]), W p l e { frames := 2, cells := 0, slots := 0, locals := 84 } s m args below meth c H locs 0 0 (gQ w n Rm below args s 0 0 (.inr none) r True) (F0 m 11 ls []) := by
  intro fu
  induction fu with
  | zero =>
    intro a0 a1 x2 M r hg0 hg1 hr2 hf H locs ls hH hl
    exact absurd hf (by simp [fX9_keeps_11])
  | succ fu ih =>
    intro a0 a1 x2 M r hg0 hg1 hr2 hf H locs ls hH hl
    unfold fX9_keeps_11 at hf
    refine lv_iload_n hM.fx.1 hM.fx.2.1 dX9_keeps_11 rfl (lv_at hl 2 rfl) ?_
    refine lv_sipush (v := gi (8330)) hM.fx.1 hM.fx.2.1 dX9_keeps_12 (by decide) ?_
    refine r_icmp_ge (tgt := 40) hM.fx hr2 (gcR (k := 8330) (by decide)) dX9_keeps_15 (by decide) (fun h_1 => ?_) (fun h_1 => ?_)
    · have hf := gpos h_1 hf
      refine lv_aload_n hM.fx.1 hM.fx.2.1 dX9_keeps_40 rfl (lv_at hl 0 rfl) ?_
      refine lv_dup hM.fx.1 hM.fx.2.1 dX9_keeps_41 rfl ?_
      refine r_getI hM.fx hM.kf hH fl_X9_49 (hLC.in hg0 (by decide)) dX9_keeps_42 ?_
      have hr_2 := hH.2.2.i (hLC.in hg0 (by decide)).2.2 (by decide : glg 9 6 = false)
      refine lv_iconst (v := gi (1)) hM.fx.1 hM.fx.2.1 dX9_keeps_45 rfl ?_
      refine r_isub hM.fx dX9_keeps_46 ?_
      refine r_putI hM.fx hM.kf hH fp_X9_49 (hLC.in hg0 (by decide)) (gwi_r _) dX9_keeps_47 (fun H locs hH => ?_)
      obtain ⟨M_3, eM_3, hf⟩ := gst_s hf
      rw [← eM_3] at hH
      exact wX9_keeps_50 hLC hM   _ _ _ _ hg0 hg1 hf _ _ _ hH (lv_sub hl [0, 1] rfl)
    · have hf := gneg' h_1 hf
      refine lv_aload_n hM.fx.1 hM.fx.2.1 dX9_keeps_18 rfl (lv_at hl 0 rfl) ?_
      refine r_getR hM.fx hM.kf hH hLC fl_X9_19 hg0 gch_9_3 dX9_keeps_19 ?_
      refine lv_iload_n hM.fx.1 hM.fx.2.1 dX9_keeps_22 rfl (lv_at hl 2 rfl) ?_
      refine lv_aload_n hM.fx.1 hM.fx.2.1 dX9_keeps_23 rfl (lv_at hl 0 rfl) ?_
      refine r_getR hM.fx hM.kf hH hLC fl_X9_19 hg0 gch_9_3 dX9_keeps_24 ?_
      refine lv_iload_n hM.fx.1 hM.fx.2.1 dX9_keeps_27 rfl (lv_at hl 2 rfl) ?_
      refine lv_sipush (v := gi (1190)) hM.fx.1 hM.fx.2.1 dX9_keeps_28 (by decide) ?_
      refine r_iadd hM.fx dX9_keeps_31 ?_
      obtain ⟨g_4, hf⟩ := gif hf
      refine r_iald hM.fx hM.kf hH (hLC.in (hLC.ch hg0 (by decide) gch_9_3) (by decide)) (⟨by decide, by decide⟩ : gAr 152336 0) (gwi_r _) g_4 dX9_keeps_32 ?_
      have hr_5 := hH.2.2.i (k := (gwi (x2 + 1190)).toNat) (hLC.in (hLC.ch hg0 (by decide) gch_9_3) (by decide)).2.2 (glg_a (⟨by decide, by decide⟩ : gAr 152336 0))
      obtain ⟨g_6, hf⟩ := gif hf
      refine r_iast hM.fx hM.kf hH (hLC.in (hLC.ch hg0 (by decide) gch_9_3) (by decide)) (⟨by decide, by decide⟩ : gAr 152336 0) hr2 g_6 hr_5 dX9_keeps_33 (fun H locs hH => ?_)
      obtain ⟨M_7, eM_7, hf⟩ := gst_s hf
      rw [← eM_7] at hH
      obtain ⟨x_8, ex_8, hf⟩ := gst_s hf
      have hx_8 : gRI x_8 := by rw [ex_8]; exact gwi_r _
      refine r_iinc (lv' := [(2, .int (gi x_8)), (0, .ref (w.1 + a0)), (1, .ref (w.1 + a1))]) hM.fx dX9_keeps_34 hl (k := 2) rfl (by decide) (by rw [ex_8]; rfl) (fun ls hl => ?_)
      refine lv_goto (tgt := 11) hM.fx.1 hM.fx.2.1 dX9_keeps_37 (by decide) ?_
      exact ih _ _ _ _ _ hg0 hg1 hx_8 hf _ _ _ hH (lv_sub hl [1, 2, 0] rfl)
def fX9_keeps (g : Nat → Nat) (a0 : Nat) (a1 : Nat) (M : gMem) : Option gMem :=
  if M a0 6 = 8 then (fX9_keeps_11 g gF a0 a1 0 M) else (fX9_keeps_50 g a0 a1 M)
set_option maxHeartbeats 4000000 in
set_option maxRecDepth 100000 in
theorem mX9_keeps {w : gW} {n : Nat} {Rm : Nat → Nat → Nat} {g : Nat → Nat} (hLC : gLC g n Rm) {l : Launch} (hl9 : l.stackTraces = false) {a0 : Nat} {a1 : Nat} {M : gMem} {r : gMem} (hg0 : g a0 = 9) (hg1 : gAr (g a1) 0) (hf : fX9_keeps g a0 a1 M = some r) : gMT w n Rm l yX9_keeps cX9_keeps 3 none 2 84 0 0 [.ref (w.1 + a0), .ref (w.1 + a1)] M (.inr none) r True := by
  unfold fX9_keeps at hf
  refine gMT.of hl9 (by decide +kernel) ((Nat.le_of_ble_eq_true rfl)) ?_
  intro p e s m below meth c hM hH ls hl
  have hM : gMC w p l s m ([.ref (w.1 + a0), .ref (w.1 + a1)] : List Value).toArray meth c cX9_keeps 3 RX9 none := hM
  have hl : lv_has ls 3 [(0, .ref (w.1 + a0)), (1, .ref (w.1 + a1))] := hl
  refine lv_aload_n hM.fx.1 hM.fx.2.1 dX9_keeps_0 rfl (lv_at hl 0 rfl) ?_
  refine r_getI hM.fx hM.kf hH fl_X9_49 (hLC.in hg0 (by decide)) dX9_keeps_1 ?_
  have hr_1 := hH.2.2.i (hLC.in hg0 (by decide)).2.2 (by decide : glg 9 6 = false)
  refine lv_bipush (v := gi (8)) hM.fx.1 hM.fx.2.1 dX9_keeps_4 (by decide) ?_
  refine r_icmp_ne (tgt := 50) hM.fx hr_1 (gcR (k := 8) (by decide)) dX9_keeps_6 (by decide) (fun h_2 => ?_) (fun h_2 => ?_)
  · have hf := gneg' h_2 hf
    exact wX9_keeps_50 hLC hM   _ _ _ _ hg0 hg1 hf _ _ _ hH hl
  · have hf := gpos h_2 hf
    refine lv_iconst (v := gi (0)) hM.fx.1 hM.fx.2.1 dX9_keeps_9 rfl ?_
    refine lv_istore_n (lv' := [(2, .int (gi 0)), (0, .ref (w.1 + a0)), (1, .ref (w.1 + a1))]) hM.fx.1 hM.fx.2.1 dX9_keeps_10 rfl hl (by decide) rfl (fun ls hl => ?_)
    exact wX9_keeps_11 hLC hM  gF _ _ _ _ _ hg0 hg1 (gcR (k := 0) (by decide)) hf _ _ _ hH (lv_sub hl [1, 2, 0] rfl)
def fX9_undo_13 (g : Nat → Nat)  (a0 : Nat) (as0 : Nat) (xs1 : Int) (M : gMem) : Option (Int × gMem) :=
  gst (gup M as0 7 xs1) fun M_1 => if M_1 a0 7 ≤ 0 then (gst (gup M_1 a0 6 (gwi (M_1 a0 6 - 1))) fun M_5 => (fX9_copies g (a0 + 1) 0 (a0 + 4) (gwi (1190 * M_5 a0 6)) M_5).bind fun M_8 => some (M_8 a0 6, M_8)) else (some (0, M_1))
set_option maxHeartbeats 4000000 in
set_option maxRecDepth 100000 in
theorem wX9_undo_13 {w : gW} {n : Nat} {Rm : Nat → Nat → Nat} {g : Nat → Nat} (hLC : gLC g n Rm) {p : Program} {l : Launch} {e : Env} {s : State} {m : MethodId} {args : Array Value} {below : List Frame} {meth : Method} {c : Code} (hM : gMC w p l s m args meth c cX9_undo 1 RX9 (some .int))  : ∀ (a0 : Nat) (as0 : Nat) (xs1 : Int) (M : gMem) (r : (Int × gMem)) (hg0 : g a0 = 9) (hgs0 : g as0 = 9) (hrs1 : gRI xs1) (hf : fX9_undo_13 g a0 as0 xs1 M = some r) (H : Heap) (locs : List Loc) (ls : Array Slot) (hH : gH w n Rm M s H locs) (hl : lv_has ls 1 [(0, .ref (w.1 + a0))]), W p l e { frames := 2, cells := 0, slots := 0, locals := 84 } s m args below meth c H locs 0 0 (gQ w n Rm below args s 0 0 (.inr (some (.int (gi r.1)))) r.2 (gRI r.1)) (F0 m 13 ls [.int (gi xs1), .ref (w.1 + as0)]) := by
  intro a0 as0 xs1 M r hg0 hgs0 hrs1 hf H locs ls hH hl
  unfold fX9_undo_13 at hf
  refine r_putI hM.fx hM.kf hH fp_X9_46 (hLC.in hgs0 (by decide)) hrs1 dX9_undo_13 (fun H locs hH => ?_)
  obtain ⟨M_1, eM_1, hf⟩ := gst_s hf
  rw [← eM_1] at hH
  refine lv_aload_n hM.fx.1 hM.fx.2.1 dX9_undo_16 rfl (lv_at hl 0 rfl) ?_
  refine r_getI hM.fx hM.kf hH fl_X9_46 (hLC.in hg0 (by decide)) dX9_undo_17 ?_
  have hr_2 := hH.2.2.i (hLC.in hg0 (by decide)).2.2 (by decide : glg 9 7 = false)
  refine r_if_le (tgt := 25) hM.fx hr_2 dX9_undo_20 (by decide) (fun h_3 => ?_) (fun h_3 => ?_)
  · have hf := gpos h_3 hf
    refine lv_aload_n hM.fx.1 hM.fx.2.1 dX9_undo_25 rfl (lv_at hl 0 rfl) ?_
    refine lv_dup hM.fx.1 hM.fx.2.1 dX9_undo_26 rfl ?_
    refine r_getI hM.fx hM.kf hH fl_X9_49 (hLC.in hg0 (by decide)) dX9_undo_27 ?_
    have hr_4 := hH.2.2.i (hLC.in hg0 (by decide)).2.2 (by decide : glg 9 6 = false)
    refine lv_iconst (v := gi (1)) hM.fx.1 hM.fx.2.1 dX9_undo_30 rfl ?_
    refine r_isub hM.fx dX9_undo_31 ?_
    refine r_putI hM.fx hM.kf hH fp_X9_49 (hLC.in hg0 (by decide)) (gwi_r _) dX9_undo_32 (fun H locs hH => ?_)
    obtain ⟨M_5, eM_5, hf⟩ := gst_s hf
    rw [← eM_5] at hH
    refine lv_aload_n hM.fx.1 hM.fx.2.1 dX9_undo_35 rfl (lv_at hl 0 rfl) ?_
    refine r_getR hM.fx hM.kf hH hLC fl_X9_7 hg0 gch_9_0 dX9_undo_36 ?_
    refine lv_iconst (v := gi (0)) hM.fx.1 hM.fx.2.1 dX9_undo_39 rfl ?_
    refine lv_aload_n hM.fx.1 hM.fx.2.1 dX9_undo_40 rfl (lv_at hl 0 rfl) ?_
    refine r_getR hM.fx hM.kf hH hLC fl_X9_19 hg0 gch_9_3 dX9_undo_41 ?_
    refine lv_sipush (v := gi (1190)) hM.fx.1 hM.fx.2.1 dX9_undo_44 (by decide) ?_
    refine lv_aload_n hM.fx.1 hM.fx.2.1 dX9_undo_47 rfl (lv_at hl 0 rfl) ?_
    refine r_getI hM.fx hM.kf hH fl_X9_49 (hLC.in hg0 (by decide)) dX9_undo_48 ?_
    have hr_6 := hH.2.2.i (hLC.in hg0 (by decide)).2.2 (by decide : glg 9 6 = false)
    refine r_imul hM.fx dX9_undo_51 ?_
    obtain ⟨M_8, eM_8, hf⟩ := gbd hf
    refine r_go0 hH rfl (r_runS (As := [.ref (w.1 + (a0 + 1)), .int (gi 0), .ref (w.1 + (a0 + 4)), .int (gi (gwi (1190 * M_5 a0 6)))]) hM hH cs_X9_52 (mX9_copies hLC hM.ns (by rw [(hLC.ch hg0 (by decide) gch_9_0)]; exact (⟨by decide, by decide⟩ : gAr 19056 0)) (gcR (k := 0) (by decide)) (by rw [(hLC.ch hg0 (by decide) gch_9_3)]; exact (⟨by decide, by decide⟩ : gAr 152336 0)) (gwi_r _) eM_8) rfl hl.1 rfl (Nat.le_of_ble_eq_true rfl) ⟨(Nat.le_of_ble_eq_true rfl), (Nat.le_of_ble_eq_true rfl)⟩ ⟨(Nat.le_of_ble_eq_true rfl), (Nat.le_of_ble_eq_true rfl)⟩ dX9_undo_52) (fun hp_7 H locs hH => ?_)
    refine lv_aload_n hM.fx.1 hM.fx.2.1 dX9_undo_55 rfl (lv_at hl 0 rfl) ?_
    refine r_getI hM.fx hM.kf hH fl_X9_49 (hLC.in hg0 (by decide)) dX9_undo_56 ?_
    have hr_9 := hH.2.2.i (hLC.in hg0 (by decide)).2.2 (by decide : glg 9 6 = false)
    obtain rfl := Option.some.inj hf
    exact r_iret hM hH hr_9 ⟨(Nat.le_of_ble_eq_true rfl), (Nat.le_of_ble_eq_true rfl)⟩ dX9_undo_59
  · have hf := gneg' h_3 hf
    refine lv_iconst (v := gi (0)) hM.fx.1 hM.fx.2.1 dX9_undo_23 rfl ?_
    obtain rfl := Option.some.inj hf
    exact r_iret hM hH (gcR (k := 0) (by decide)) ⟨(Nat.le_of_ble_eq_true rfl), (Nat.le_of_ble_eq_true rfl)⟩ dX9_undo_24
def fX9_undo (g : Nat → Nat) (a0 : Nat) (M : gMem) : Option (Int × gMem) :=
  if M a0 6 = 0 then (fX9_undo_13 g a0 a0 1 M) else (fX9_undo_13 g a0 a0 0 M)
set_option maxHeartbeats 4000000 in
set_option maxRecDepth 100000 in
theorem mX9_undo {w : gW} {n : Nat} {Rm : Nat → Nat → Nat} {g : Nat → Nat} (hLC : gLC g n Rm) {l : Launch} (hl9 : l.stackTraces = false) {a0 : Nat} {M : gMem} {r : (Int × gMem)} (hg0 : g a0 = 9) (hf : fX9_undo g a0 M = some r) : gMT w n Rm l yX9_undo cX9_undo 1 (some .int) 2 84 0 0 [.ref (w.1 + a0)] M (.inr (some (.int (gi r.1)))) r.2 (gRI r.1) := by
  unfold fX9_undo at hf
  refine gMT.of hl9 (by decide +kernel) ((Nat.le_of_ble_eq_true rfl)) ?_
  intro p e s m below meth c hM hH ls hl
  have hM : gMC w p l s m ([.ref (w.1 + a0)] : List Value).toArray meth c cX9_undo 1 RX9 (some .int) := hM
  have hl : lv_has ls 1 [(0, .ref (w.1 + a0))] := hl
  refine lv_aload_n hM.fx.1 hM.fx.2.1 dX9_undo_0 rfl (lv_at hl 0 rfl) ?_
  refine lv_aload_n hM.fx.1 hM.fx.2.1 dX9_undo_1 rfl (lv_at hl 0 rfl) ?_
  refine r_getI hM.fx hM.kf hH fl_X9_49 (hLC.in hg0 (by decide)) dX9_undo_2 ?_
  have hr_1 := hH.2.2.i (hLC.in hg0 (by decide)).2.2 (by decide : glg 9 6 = false)
  refine r_if_ne (tgt := 12) hM.fx hr_1 dX9_undo_5 (by decide) (fun h_2 => ?_) (fun h_2 => ?_)
  · have hf := gneg' h_2 hf
    refine lv_iconst (v := gi (0)) hM.fx.1 hM.fx.2.1 dX9_undo_12 rfl ?_
    exact wX9_undo_13 hLC hM   _ _ _ _ _ hg0 hg0 (gcR (k := 0) (by decide)) hf _ _ _ hH hl
  · have hf := gpos h_2 hf
    refine lv_iconst (v := gi (1)) hM.fx.1 hM.fx.2.1 dX9_undo_8 rfl ?_
    refine lv_goto (tgt := 13) hM.fx.1 hM.fx.2.1 dX9_undo_9 (by decide) ?_
    exact wX9_undo_13 hLC hM   _ _ _ _ _ hg0 hg0 (gcR (k := 1) (by decide)) hf _ _ _ hH hl
def fX9_save_15 (g : Nat → Nat)  (a0 : Nat) (x1 : Int) (as0 : Nat) (xs1 : Int) (M : gMem) : Option gMem :=
  gst (gup M as0 7 xs1) fun M_1 => if M_1 a0 7 ≤ 0 then ((fX9_copies g (a0 + 5) (gwi (1190 * x1)) (a0 + 1) 0 M_1).bind fun M_5 => if (0 : Int) ≤ x1 ∧ (x1 : Int) < 2 then gst (gup M_5 (a0 + 6) x1.toNat 1) fun M_7 => some M_7 else none) else (some M_1)
set_option maxHeartbeats 4000000 in
set_option maxRecDepth 100000 in
theorem wX9_save_15 {w : gW} {n : Nat} {Rm : Nat → Nat → Nat} {g : Nat → Nat} (hLC : gLC g n Rm) {p : Program} {l : Launch} {e : Env} {s : State} {m : MethodId} {args : Array Value} {below : List Frame} {meth : Method} {c : Code} (hM : gMC w p l s m args meth c cX9_save 2 RX9 none)  : ∀ (a0 : Nat) (x1 : Int) (as0 : Nat) (xs1 : Int) (M : gMem) (r : gMem) (hg0 : g a0 = 9) (hr1 : gRI x1) (hgs0 : g as0 = 9) (hrs1 : gRI xs1) (hf : fX9_save_15 g a0 x1 as0 xs1 M = some r) (H : Heap) (locs : List Loc) (ls : Array Slot) (hH : gH w n Rm M s H locs) (hl : lv_has ls 2 [(0, .ref (w.1 + a0)), (1, .int (gi x1))]), W p l e { frames := 2, cells := 0, slots := 0, locals := 84 } s m args below meth c H locs 0 0 (gQ w n Rm below args s 0 0 (.inr none) r True) (F0 m 15 ls [.int (gi xs1), .ref (w.1 + as0)]) := by
  intro a0 x1 as0 xs1 M r hg0 hr1 hgs0 hrs1 hf H locs ls hH hl
  unfold fX9_save_15 at hf
  refine r_putI hM.fx hM.kf hH fp_X9_46 (hLC.in hgs0 (by decide)) hrs1 dX9_save_15 (fun H locs hH => ?_)
  obtain ⟨M_1, eM_1, hf⟩ := gst_s hf
  rw [← eM_1] at hH
  refine lv_aload_n hM.fx.1 hM.fx.2.1 dX9_save_18 rfl (lv_at hl 0 rfl) ?_
  refine r_getI hM.fx hM.kf hH fl_X9_46 (hLC.in hg0 (by decide)) dX9_save_19 ?_
  have hr_2 := hH.2.2.i (hLC.in hg0 (by decide)).2.2 (by decide : glg 9 7 = false)
  refine r_if_le (tgt := 26) hM.fx hr_2 dX9_save_22 (by decide) (fun h_3 => ?_) (fun h_3 => ?_)
  · have hf := gpos h_3 hf
    refine lv_aload_n hM.fx.1 hM.fx.2.1 dX9_save_26 rfl (lv_at hl 0 rfl) ?_
    refine r_getR hM.fx hM.kf hH hLC fl_X9_22 hg0 gch_9_4 dX9_save_27 ?_
    refine lv_sipush (v := gi (1190)) hM.fx.1 hM.fx.2.1 dX9_save_30 (by decide) ?_
    refine lv_iload_n hM.fx.1 hM.fx.2.1 dX9_save_33 rfl (lv_at hl 1 rfl) ?_
    refine r_imul hM.fx dX9_save_34 ?_
    refine lv_aload_n hM.fx.1 hM.fx.2.1 dX9_save_35 rfl (lv_at hl 0 rfl) ?_
    refine r_getR hM.fx hM.kf hH hLC fl_X9_7 hg0 gch_9_0 dX9_save_36 ?_
    refine lv_iconst (v := gi (0)) hM.fx.1 hM.fx.2.1 dX9_save_39 rfl ?_
    obtain ⟨M_5, eM_5, hf⟩ := gbd hf
    refine r_go0 hH rfl (r_runS (As := [.ref (w.1 + (a0 + 5)), .int (gi (gwi (1190 * x1))), .ref (w.1 + (a0 + 1)), .int (gi 0)]) hM hH cs_X9_52 (mX9_copies hLC hM.ns (by rw [(hLC.ch hg0 (by decide) gch_9_4)]; exact (⟨by decide, by decide⟩ : gAr 38096 0)) (gwi_r _) (by rw [(hLC.ch hg0 (by decide) gch_9_0)]; exact (⟨by decide, by decide⟩ : gAr 19056 0)) (gcR (k := 0) (by decide)) eM_5) rfl hl.1 rfl (Nat.le_of_ble_eq_true rfl) ⟨(Nat.le_of_ble_eq_true rfl), (Nat.le_of_ble_eq_true rfl)⟩ ⟨(Nat.le_of_ble_eq_true rfl), (Nat.le_of_ble_eq_true rfl)⟩ dX9_save_40) (fun hp_4 H locs hH => ?_)
    refine lv_aload_n hM.fx.1 hM.fx.2.1 dX9_save_43 rfl (lv_at hl 0 rfl) ?_
    refine r_getR hM.fx hM.kf hH hLC fl_X9_25 hg0 gch_9_5 dX9_save_44 ?_
    refine lv_iload_n hM.fx.1 hM.fx.2.1 dX9_save_47 rfl (lv_at hl 1 rfl) ?_
    refine lv_iconst (v := gi (1)) hM.fx.1 hM.fx.2.1 dX9_save_48 rfl ?_
    obtain ⟨g_6, hf⟩ := gif hf
    refine r_zast hM.fx hM.kf hH (hLC.in (hLC.ch hg0 (by decide) gch_9_5) (by decide)) (⟨by decide, by decide⟩ : gAr 50 2) hr1 g_6 (Or.inr rfl) dX9_save_49 (fun H locs hH => ?_)
    obtain ⟨M_7, eM_7, hf⟩ := gst_s hf
    rw [← eM_7] at hH
    obtain rfl := Option.some.inj hf
    exact r_vret hM hH trivial ⟨(Nat.le_of_ble_eq_true rfl), (Nat.le_of_ble_eq_true rfl)⟩ dX9_save_50
  · have hf := gneg' h_3 hf
    obtain rfl := Option.some.inj hf
    exact r_vret hM hH trivial ⟨(Nat.le_of_ble_eq_true rfl), (Nat.le_of_ble_eq_true rfl)⟩ dX9_save_25
def fX9_save (g : Nat → Nat) (a0 : Nat) (x1 : Int) (M : gMem) : Option gMem :=
  (fX9_isIn g x1 0 1).bind fun x_2 => if x_2 = 0 then (fX9_save_15 g a0 x1 a0 1 M) else (fX9_save_15 g a0 x1 a0 0 M)
set_option maxHeartbeats 4000000 in
set_option maxRecDepth 100000 in
theorem mX9_save {w : gW} {n : Nat} {Rm : Nat → Nat → Nat} {g : Nat → Nat} (hLC : gLC g n Rm) {l : Launch} (hl9 : l.stackTraces = false) {a0 : Nat} {x1 : Int} {M : gMem} {r : gMem} (hg0 : g a0 = 9) (hr1 : gRI x1) (hf : fX9_save g a0 x1 M = some r) : gMT w n Rm l yX9_save cX9_save 2 none 2 84 0 0 [.ref (w.1 + a0), .int (gi x1)] M (.inr none) r True := by
  unfold fX9_save at hf
  refine gMT.of hl9 (by decide +kernel) ((Nat.le_of_ble_eq_true rfl)) ?_
  intro p e s m below meth c hM hH ls hl
  have hM : gMC w p l s m ([.ref (w.1 + a0), .int (gi x1)] : List Value).toArray meth c cX9_save 2 RX9 none := hM
  have hl : lv_has ls 2 [(0, .ref (w.1 + a0)), (1, .int (gi x1))] := hl
  refine lv_aload_n hM.fx.1 hM.fx.2.1 dX9_save_0 rfl (lv_at hl 0 rfl) ?_
  refine lv_iload_n hM.fx.1 hM.fx.2.1 dX9_save_1 rfl (lv_at hl 1 rfl) ?_
  refine lv_iconst (v := gi (0)) hM.fx.1 hM.fx.2.1 dX9_save_2 rfl ?_
  refine lv_iconst (v := gi (1)) hM.fx.1 hM.fx.2.1 dX9_save_3 rfl ?_
  obtain ⟨x_2, ex_2, hf⟩ := gbd hf
  refine r_go1 hH rfl (r_runS (As := [.int (gi x1), .int (gi 0), .int (gi 1)]) hM hH cs_X9_56 (mX9_isIn hLC hM.ns hr1 (gcR (k := 0) (by decide)) (gcR (k := 1) (by decide)) ex_2) rfl hl.1 rfl (Nat.le_of_ble_eq_true rfl) ⟨(Nat.le_of_ble_eq_true rfl), (Nat.le_of_ble_eq_true rfl)⟩ ⟨(Nat.le_of_ble_eq_true rfl), (Nat.le_of_ble_eq_true rfl)⟩ dX9_save_4) (fun hp_1 H locs hH => ?_)
  refine r_if_eq (tgt := 14) hM.fx (gz_r hp_1) dX9_save_7 (by decide) (fun h_3 => ?_) (fun h_3 => ?_)
  · have hf := gpos h_3 hf
    refine lv_iconst (v := gi (1)) hM.fx.1 hM.fx.2.1 dX9_save_14 rfl ?_
    exact wX9_save_15 hLC hM   _ _ _ _ _ _ hg0 hr1 hg0 (gcR (k := 1) (by decide)) hf _ _ _ hH hl
  · have hf := gneg' h_3 hf
    refine lv_iconst (v := gi (0)) hM.fx.1 hM.fx.2.1 dX9_save_10 rfl ?_
    refine lv_goto (tgt := 15) hM.fx.1 hM.fx.2.1 dX9_save_11 (by decide) ?_
    exact wX9_save_15 hLC hM   _ _ _ _ _ _ hg0 hr1 hg0 (gcR (k := 0) (by decide)) hf _ _ _ hH hl
def fX9_restore_28 (g : Nat → Nat)  (a0 : Nat) (x1 : Int) (as0 : Nat) (xs1 : Int) (M : gMem) : Option (Int × gMem) :=
  gst (gup M as0 7 xs1) fun M_1 => if M_1 a0 7 ≤ 0 then ((fX9_keeps g a0 (a0 + 1) M_1).bind fun M_5 => (fX9_copies g (a0 + 1) 0 (a0 + 5) (gwi (1190 * x1)) M_5).bind fun M_7 => if (0 : Int) ≤ 3 ∧ (3 : Int) < 1190 then some (M_7 (a0 + 1) (3 : Int).toNat, M_7) else none) else (some (0, M_1))
set_option maxHeartbeats 4000000 in
set_option maxRecDepth 100000 in
theorem wX9_restore_28 {w : gW} {n : Nat} {Rm : Nat → Nat → Nat} {g : Nat → Nat} (hLC : gLC g n Rm) {p : Program} {l : Launch} {e : Env} {s : State} {m : MethodId} {args : Array Value} {below : List Frame} {meth : Method} {c : Code} (hM : gMC w p l s m args meth c cX9_restore 2 RX9 (some .int))  : ∀ (a0 : Nat) (x1 : Int) (as0 : Nat) (xs1 : Int) (M : gMem) (r : (Int × gMem)) (hg0 : g a0 = 9) (hr1 : gRI x1) (hgs0 : g as0 = 9) (hrs1 : gRI xs1) (hf : fX9_restore_28 g a0 x1 as0 xs1 M = some r) (H : Heap) (locs : List Loc) (ls : Array Slot) (hH : gH w n Rm M s H locs) (hl : lv_has ls 2 [(0, .ref (w.1 + a0)), (1, .int (gi x1))]), W p l e { frames := 3, cells := 0, slots := 0, locals := 106 } s m args below meth c H locs 0 0 (gQ w n Rm below args s 0 0 (.inr (some (.int (gi r.1)))) r.2 (gRI r.1)) (F0 m 28 ls [.int (gi xs1), .ref (w.1 + as0)]) := by
  intro a0 x1 as0 xs1 M r hg0 hr1 hgs0 hrs1 hf H locs ls hH hl
  unfold fX9_restore_28 at hf
  refine r_putI hM.fx hM.kf hH fp_X9_46 (hLC.in hgs0 (by decide)) hrs1 dX9_restore_28 (fun H locs hH => ?_)
  obtain ⟨M_1, eM_1, hf⟩ := gst_s hf
  rw [← eM_1] at hH
  refine lv_aload_n hM.fx.1 hM.fx.2.1 dX9_restore_31 rfl (lv_at hl 0 rfl) ?_
  refine r_getI hM.fx hM.kf hH fl_X9_46 (hLC.in hg0 (by decide)) dX9_restore_32 ?_
  have hr_2 := hH.2.2.i (hLC.in hg0 (by decide)).2.2 (by decide : glg 9 7 = false)
  refine r_if_le (tgt := 40) hM.fx hr_2 dX9_restore_35 (by decide) (fun h_3 => ?_) (fun h_3 => ?_)
  · have hf := gpos h_3 hf
    refine lv_aload_n hM.fx.1 hM.fx.2.1 dX9_restore_40 rfl (lv_at hl 0 rfl) ?_
    refine lv_aload_n hM.fx.1 hM.fx.2.1 dX9_restore_41 rfl (lv_at hl 0 rfl) ?_
    refine r_getR hM.fx hM.kf hH hLC fl_X9_7 hg0 gch_9_0 dX9_restore_42 ?_
    obtain ⟨M_5, eM_5, hf⟩ := gbd hf
    refine r_go0 hH rfl (r_runV (As := [.ref (w.1 + (a0 + 1))]) hM hH cv_X9_60 (mX9_keeps hLC hM.ns hg0 (by rw [(hLC.ch hg0 (by decide) gch_9_0)]; exact (⟨by decide, by decide⟩ : gAr 19056 0)) eM_5) (hLC.in hg0 (by decide)) (by decide) rfl rfl rfl hl.1 rfl (Nat.le_of_ble_eq_true rfl) ⟨(Nat.le_of_ble_eq_true rfl), (Nat.le_of_ble_eq_true rfl)⟩ ⟨(Nat.le_of_ble_eq_true rfl), (Nat.le_of_ble_eq_true rfl)⟩ dX9_restore_45) (fun hp_4 H locs hH => ?_)
    refine lv_aload_n hM.fx.1 hM.fx.2.1 dX9_restore_48 rfl (lv_at hl 0 rfl) ?_
    refine r_getR hM.fx hM.kf hH hLC fl_X9_7 hg0 gch_9_0 dX9_restore_49 ?_
    refine lv_iconst (v := gi (0)) hM.fx.1 hM.fx.2.1 dX9_restore_52 rfl ?_
    refine lv_aload_n hM.fx.1 hM.fx.2.1 dX9_restore_53 rfl (lv_at hl 0 rfl) ?_
    refine r_getR hM.fx hM.kf hH hLC fl_X9_22 hg0 gch_9_4 dX9_restore_54 ?_
    refine lv_sipush (v := gi (1190)) hM.fx.1 hM.fx.2.1 dX9_restore_57 (by decide) ?_
    refine lv_iload_n hM.fx.1 hM.fx.2.1 dX9_restore_60 rfl (lv_at hl 1 rfl) ?_
    refine r_imul hM.fx dX9_restore_61 ?_
    obtain ⟨M_7, eM_7, hf⟩ := gbd hf
    refine r_go0 hH rfl (r_runS (As := [.ref (w.1 + (a0 + 1)), .int (gi 0), .ref (w.1 + (a0 + 5)), .int (gi (gwi (1190 * x1)))]) hM hH cs_X9_52 (mX9_copies hLC hM.ns (by rw [(hLC.ch hg0 (by decide) gch_9_0)]; exact (⟨by decide, by decide⟩ : gAr 19056 0)) (gcR (k := 0) (by decide)) (by rw [(hLC.ch hg0 (by decide) gch_9_4)]; exact (⟨by decide, by decide⟩ : gAr 38096 0)) (gwi_r _) eM_7) rfl hl.1 rfl (Nat.le_of_ble_eq_true rfl) ⟨(Nat.le_of_ble_eq_true rfl), (Nat.le_of_ble_eq_true rfl)⟩ ⟨(Nat.le_of_ble_eq_true rfl), (Nat.le_of_ble_eq_true rfl)⟩ dX9_restore_62) (fun hp_6 H locs hH => ?_)
    refine lv_aload_n hM.fx.1 hM.fx.2.1 dX9_restore_65 rfl (lv_at hl 0 rfl) ?_
    refine r_getR hM.fx hM.kf hH hLC fl_X9_7 hg0 gch_9_0 dX9_restore_66 ?_
    refine lv_iconst (v := gi (3)) hM.fx.1 hM.fx.2.1 dX9_restore_69 rfl ?_
    obtain ⟨g_8, hf⟩ := gif hf
    refine r_iald hM.fx hM.kf hH (hLC.in (hLC.ch hg0 (by decide) gch_9_0) (by decide)) (⟨by decide, by decide⟩ : gAr 19056 0) (gcR (k := 3) (by decide)) g_8 dX9_restore_70 ?_
    have hr_9 := hH.2.2.i (k := (3 : Int).toNat) (hLC.in (hLC.ch hg0 (by decide) gch_9_0) (by decide)).2.2 (glg_a (⟨by decide, by decide⟩ : gAr 19056 0))
    obtain rfl := Option.some.inj hf
    exact r_iret hM hH hr_9 ⟨(Nat.le_of_ble_eq_true rfl), (Nat.le_of_ble_eq_true rfl)⟩ dX9_restore_71
  · have hf := gneg' h_3 hf
    refine lv_iconst (v := gi (0)) hM.fx.1 hM.fx.2.1 dX9_restore_38 rfl ?_
    obtain rfl := Option.some.inj hf
    exact r_iret hM hH (gcR (k := 0) (by decide)) ⟨(Nat.le_of_ble_eq_true rfl), (Nat.le_of_ble_eq_true rfl)⟩ dX9_restore_39
def fX9_restore (g : Nat → Nat) (a0 : Nat) (x1 : Int) (M : gMem) : Option (Int × gMem) :=
  (fX9_isIn g x1 0 1).bind fun x_2 => if x_2 = 0 then (fX9_restore_28 g a0 x1 a0 1 M) else (if (0 : Int) ≤ x1 ∧ (x1 : Int) < 2 then if M (a0 + 6) x1.toNat = 0 then (fX9_restore_28 g a0 x1 a0 2 M) else (fX9_restore_28 g a0 x1 a0 0 M) else none)
set_option maxHeartbeats 4000000 in
set_option maxRecDepth 100000 in
theorem mX9_restore {w : gW} {n : Nat} {Rm : Nat → Nat → Nat} {g : Nat → Nat} (hLC : gLC g n Rm) {l : Launch} (hl9 : l.stackTraces = false) {a0 : Nat} {x1 : Int} {M : gMem} {r : (Int × gMem)} (hg0 : g a0 = 9) (hr1 : gRI x1) (hf : fX9_restore g a0 x1 M = some r) : gMT w n Rm l yX9_restore cX9_restore 2 (some .int) 3 106 0 0 [.ref (w.1 + a0), .int (gi x1)] M (.inr (some (.int (gi r.1)))) r.2 (gRI r.1) := by
  unfold fX9_restore at hf
  refine gMT.of hl9 (by decide +kernel) ((Nat.le_of_ble_eq_true rfl)) ?_
  intro p e s m below meth c hM hH ls hl
  have hM : gMC w p l s m ([.ref (w.1 + a0), .int (gi x1)] : List Value).toArray meth c cX9_restore 2 RX9 (some .int) := hM
  have hl : lv_has ls 2 [(0, .ref (w.1 + a0)), (1, .int (gi x1))] := hl
  refine lv_aload_n hM.fx.1 hM.fx.2.1 dX9_restore_0 rfl (lv_at hl 0 rfl) ?_
  refine lv_iload_n hM.fx.1 hM.fx.2.1 dX9_restore_1 rfl (lv_at hl 1 rfl) ?_
  refine lv_iconst (v := gi (0)) hM.fx.1 hM.fx.2.1 dX9_restore_2 rfl ?_
  refine lv_iconst (v := gi (1)) hM.fx.1 hM.fx.2.1 dX9_restore_3 rfl ?_
  obtain ⟨x_2, ex_2, hf⟩ := gbd hf
  refine r_go1 hH rfl (r_runS (As := [.int (gi x1), .int (gi 0), .int (gi 1)]) hM hH cs_X9_56 (mX9_isIn hLC hM.ns hr1 (gcR (k := 0) (by decide)) (gcR (k := 1) (by decide)) ex_2) rfl hl.1 rfl (Nat.le_of_ble_eq_true rfl) ⟨(Nat.le_of_ble_eq_true rfl), (Nat.le_of_ble_eq_true rfl)⟩ ⟨(Nat.le_of_ble_eq_true rfl), (Nat.le_of_ble_eq_true rfl)⟩ dX9_restore_4) (fun hp_1 H locs hH => ?_)
  refine r_if_ne (tgt := 14) hM.fx (gz_r hp_1) dX9_restore_7 (by decide) (fun h_3 => ?_) (fun h_3 => ?_)
  · have hf := gneg' h_3 hf
    refine lv_aload_n hM.fx.1 hM.fx.2.1 dX9_restore_14 rfl (lv_at hl 0 rfl) ?_
    refine r_getR hM.fx hM.kf hH hLC fl_X9_25 hg0 gch_9_5 dX9_restore_15 ?_
    refine lv_iload_n hM.fx.1 hM.fx.2.1 dX9_restore_18 rfl (lv_at hl 1 rfl) ?_
    obtain ⟨g_4, hf⟩ := gif hf
    refine r_zald hM.fx hM.kf hH (hLC.in (hLC.ch hg0 (by decide) gch_9_5) (by decide)) (⟨by decide, by decide⟩ : gAr 50 2) hr1 g_4 dX9_restore_19 ?_
    have hr_5 := hH.2.2.i (k := x1.toNat) (hLC.in (hLC.ch hg0 (by decide) gch_9_5) (by decide)).2.2 (glg_a (⟨by decide, by decide⟩ : gAr 50 2))
    refine r_if_eq (tgt := 27) hM.fx hr_5 dX9_restore_20 (by decide) (fun h_6 => ?_) (fun h_6 => ?_)
    · have hf := gpos h_6 hf
      refine lv_iconst (v := gi (2)) hM.fx.1 hM.fx.2.1 dX9_restore_27 rfl ?_
      exact wX9_restore_28 hLC hM   _ _ _ _ _ _ hg0 hr1 hg0 (gcR (k := 2) (by decide)) hf _ _ _ hH hl
    · have hf := gneg' h_6 hf
      refine lv_iconst (v := gi (0)) hM.fx.1 hM.fx.2.1 dX9_restore_23 rfl ?_
      refine lv_goto (tgt := 28) hM.fx.1 hM.fx.2.1 dX9_restore_24 (by decide) ?_
      exact wX9_restore_28 hLC hM   _ _ _ _ _ _ hg0 hr1 hg0 (gcR (k := 0) (by decide)) hf _ _ _ hH hl
  · have hf := gpos h_3 hf
    refine lv_iconst (v := gi (1)) hM.fx.1 hM.fx.2.1 dX9_restore_10 rfl ?_
    refine lv_goto (tgt := 28) hM.fx.1 hM.fx.2.1 dX9_restore_11 (by decide) ?_
    exact wX9_restore_28 hLC hM   _ _ _ _ _ _ hg0 hr1 hg0 (gcR (k := 1) (by decide)) hf _ _ _ hH hl
def fX9_byteOf_42 (g : Nat → Nat)  (x0 : Int) (xs0 : Int) : Option Int :=
  some (gand (gshr xs0 (gwi (24 - gwi (8 * (x0).tmod 4)))) 255)
set_option maxHeartbeats 4000000 in
set_option maxRecDepth 100000 in
theorem wX9_byteOf_42 {w : gW} {n : Nat} {Rm : Nat → Nat → Nat} {g : Nat → Nat} (hLC : gLC g n Rm) {p : Program} {l : Launch} {e : Env} {s : State} {m : MethodId} {args : Array Value} {below : List Frame} {meth : Method} {c : Code} (hM : gMC w p l s m args meth c cX9_byteOf 7 RX9 (some .int))  : ∀ (x0 : Int) (xs0 : Int) (M : gMem) (r : Int) (hr0 : gRI x0) (hrs0 : gRI xs0) (hf : fX9_byteOf_42 g x0 xs0 = some r) (H : Heap) (locs : List Loc) (ls : Array Slot) (hH : gH w n Rm M s H locs) (hl : lv_has ls 7 [(0, .int (gi x0))]), W p l e { frames := 1, cells := 0, slots := 0, locals := 60 } s m args below meth c H locs 0 0 (gQ w n Rm below args s 0 0 (.inr (some (.int (gi r)))) M (gRI r)) (F0 m 42 ls [.int (gi xs0)]) := by
  intro x0 xs0 M r hr0 hrs0 hf H locs ls hH hl
  unfold fX9_byteOf_42 at hf
  refine lv_istore (lv' := [(6, .int (gi xs0)), (0, .int (gi x0))]) hM.fx.1 hM.fx.2.1 dX9_byteOf_42 hl (by decide) rfl (fun ls hl => ?_)
  refine lv_iload hM.fx.1 hM.fx.2.1 dX9_byteOf_44 (lv_at hl 0 rfl) ?_
  refine lv_bipush (v := gi (24)) hM.fx.1 hM.fx.2.1 dX9_byteOf_46 (by decide) ?_
  refine lv_bipush (v := gi (8)) hM.fx.1 hM.fx.2.1 dX9_byteOf_48 (by decide) ?_
  refine lv_iload_n hM.fx.1 hM.fx.2.1 dX9_byteOf_50 rfl (lv_at hl 1 rfl) ?_
  refine lv_iconst (v := gi (4)) hM.fx.1 hM.fx.2.1 dX9_byteOf_51 rfl ?_
  refine r_irem hM.fx hr0 (gcR (k := 4) (by decide)) (by decide) dX9_byteOf_52 ?_
  refine r_imul hM.fx dX9_byteOf_53 ?_
  refine r_isub hM.fx dX9_byteOf_54 ?_
  refine r_ishr hM.fx dX9_byteOf_55 ?_
  refine lv_sipush (v := gi (255)) hM.fx.1 hM.fx.2.1 dX9_byteOf_56 (by decide) ?_
  refine r_iand hM.fx dX9_byteOf_59 ?_
  obtain rfl := Option.some.inj hf
  exact r_iret hM hH (gi_r _) ⟨(Nat.le_of_ble_eq_true rfl), (Nat.le_of_ble_eq_true rfl)⟩ dX9_byteOf_60
def fX9_byteOf (g : Nat → Nat) (x0 : Int) (x1 : Int) (x2 : Int) (x3 : Int) (x4 : Int) (x5 : Int) : Option Int :=
  if 4 ≤ x0 then (if 8 ≤ x0 then (if 12 ≤ x0 then (if 16 ≤ x0 then (fX9_byteOf_42 g x0 x5) else (fX9_byteOf_42 g x0 x4)) else (fX9_byteOf_42 g x0 x3)) else (fX9_byteOf_42 g x0 x2)) else (fX9_byteOf_42 g x0 x1)
set_option maxHeartbeats 4000000 in
set_option maxRecDepth 100000 in
theorem mX9_byteOf {w : gW} {n : Nat} {Rm : Nat → Nat → Nat} {g : Nat → Nat} (hLC : gLC g n Rm) {l : Launch} (hl9 : l.stackTraces = false) {x0 : Int} {x1 : Int} {x2 : Int} {x3 : Int} {x4 : Int} {x5 : Int} {M : gMem} {r : Int} (hr0 : gRI x0) (hr1 : gRI x1) (hr2 : gRI x2) (hr3 : gRI x3) (hr4 : gRI x4) (hr5 : gRI x5) (hf : fX9_byteOf g x0 x1 x2 x3 x4 x5 = some r) : gMT w n Rm l yX9_byteOf cX9_byteOf 7 (some .int) 1 60 0 0 [.int (gi x0), .int (gi x1), .int (gi x2), .int (gi x3), .int (gi x4), .int (gi x5)] M (.inr (some (.int (gi r)))) M (gRI r) := by
  unfold fX9_byteOf at hf
  refine gMT.of hl9 (by decide +kernel) ((Nat.le_of_ble_eq_true rfl)) ?_
  intro p e s m below meth c hM hH ls hl
  have hM : gMC w p l s m ([.int (gi x0), .int (gi x1), .int (gi x2), .int (gi x3), .int (gi x4), .int (gi x5)] : List Value).toArray meth c cX9_byteOf 7 RX9 (some .int) := hM
  have hl : lv_has ls 7 [(0, .int (gi x0)), (1, .int (gi x1)), (2, .int (gi x2)), (3, .int (gi x3)), (4, .int (gi x4)), (5, .int (gi x5))] := hl
  refine lv_iload_n hM.fx.1 hM.fx.2.1 dX9_byteOf_0 rfl (lv_at hl 0 rfl) ?_
  refine lv_iconst (v := gi (4)) hM.fx.1 hM.fx.2.1 dX9_byteOf_1 rfl ?_
  refine r_icmp_ge (tgt := 9) hM.fx hr0 (gcR (k := 4) (by decide)) dX9_byteOf_2 (by decide) (fun h_1 => ?_) (fun h_1 => ?_)
  · have hf := gpos h_1 hf
    refine lv_iload_n hM.fx.1 hM.fx.2.1 dX9_byteOf_9 rfl (lv_at hl 0 rfl) ?_
    refine lv_bipush (v := gi (8)) hM.fx.1 hM.fx.2.1 dX9_byteOf_10 (by decide) ?_
    refine r_icmp_ge (tgt := 19) hM.fx hr0 (gcR (k := 8) (by decide)) dX9_byteOf_12 (by decide) (fun h_2 => ?_) (fun h_2 => ?_)
    · have hf := gpos h_2 hf
      refine lv_iload_n hM.fx.1 hM.fx.2.1 dX9_byteOf_19 rfl (lv_at hl 0 rfl) ?_
      refine lv_bipush (v := gi (12)) hM.fx.1 hM.fx.2.1 dX9_byteOf_20 (by decide) ?_
      refine r_icmp_ge (tgt := 29) hM.fx hr0 (gcR (k := 12) (by decide)) dX9_byteOf_22 (by decide) (fun h_3 => ?_) (fun h_3 => ?_)
      · have hf := gpos h_3 hf
        refine lv_iload_n hM.fx.1 hM.fx.2.1 dX9_byteOf_29 rfl (lv_at hl 0 rfl) ?_
        refine lv_bipush (v := gi (16)) hM.fx.1 hM.fx.2.1 dX9_byteOf_30 (by decide) ?_
        refine r_icmp_ge (tgt := 40) hM.fx hr0 (gcR (k := 16) (by decide)) dX9_byteOf_32 (by decide) (fun h_4 => ?_) (fun h_4 => ?_)
        · have hf := gpos h_4 hf
          refine lv_iload hM.fx.1 hM.fx.2.1 dX9_byteOf_40 (lv_at hl 5 rfl) ?_
          exact wX9_byteOf_42 hLC hM   _ _ _ _ hr0 hr5 hf _ _ _ hH (lv_sub hl [0] rfl)
        · have hf := gneg' h_4 hf
          refine lv_iload hM.fx.1 hM.fx.2.1 dX9_byteOf_35 (lv_at hl 4 rfl) ?_
          refine lv_goto (tgt := 42) hM.fx.1 hM.fx.2.1 dX9_byteOf_37 (by decide) ?_
          exact wX9_byteOf_42 hLC hM   _ _ _ _ hr0 hr4 hf _ _ _ hH (lv_sub hl [0] rfl)
      · have hf := gneg' h_3 hf
        refine lv_iload_n hM.fx.1 hM.fx.2.1 dX9_byteOf_25 rfl (lv_at hl 3 rfl) ?_
        refine lv_goto (tgt := 42) hM.fx.1 hM.fx.2.1 dX9_byteOf_26 (by decide) ?_
        exact wX9_byteOf_42 hLC hM   _ _ _ _ hr0 hr3 hf _ _ _ hH (lv_sub hl [0] rfl)
    · have hf := gneg' h_2 hf
      refine lv_iload_n hM.fx.1 hM.fx.2.1 dX9_byteOf_15 rfl (lv_at hl 2 rfl) ?_
      refine lv_goto (tgt := 42) hM.fx.1 hM.fx.2.1 dX9_byteOf_16 (by decide) ?_
      exact wX9_byteOf_42 hLC hM   _ _ _ _ hr0 hr2 hf _ _ _ hH (lv_sub hl [0] rfl)
  · have hf := gneg' h_1 hf
    refine lv_iload_n hM.fx.1 hM.fx.2.1 dX9_byteOf_5 rfl (lv_at hl 1 rfl) ?_
    refine lv_goto (tgt := 42) hM.fx.1 hM.fx.2.1 dX9_byteOf_6 (by decide) ?_
    exact wX9_byteOf_42 hLC hM   _ _ _ _ hr0 hr1 hf _ _ _ hH (lv_sub hl [0] rfl)
def fX9_append_128 (g : Nat → Nat) (k78 : Nat → Int → Int → Int → Int → Int → Int → gMem → Option (Int × gMem)) (a0 : Nat) (x1 : Int) (x2 : Int) (x3 : Int) (x4 : Int) (x5 : Int) (x7 : Int) (M : gMem) : Option (Int × gMem) :=
  gst (gwi (x7 + 1)) fun x_1 => k78 a0 x1 x2 x3 x4 x5 x_1 M
set_option maxHeartbeats 4000000 in
set_option maxRecDepth 100000 in
theorem wX9_append_128 {w : gW} {n : Nat} {Rm : Nat → Nat → Nat} {g : Nat → Nat} (hLC : gLC g n Rm) {p : Program} {l : Launch} {e : Env} {s : State} {m : MethodId} {args : Array Value} {below : List Frame} {meth : Method} {c : Code} (hM : gMC w p l s m args meth c cX9_append 9 RX9 (some .int)) (k78 : Nat → Int → Int → Int → Int → Int → Int → gMem → Option (Int × gMem)) (hk78 : ∀ (a0 : Nat) (x1 : Int) (x2 : Int) (x3 : Int) (x4 : Int) (x5 : Int) (x7 : Int) (M : gMem) (r : (Int × gMem)) (hg0 : g a0 = 9) (hr1 : gRI x1) (hr2 : gRI x2) (hr3 : gRI x3) (hr4 : gRI x4) (hr5 : gRI x5) (hr7 : gRI x7) (hf : k78 a0 x1 x2 x3 x4 x5 x7 M = some r) (H : Heap) (locs : List Loc) (ls : Array Slot) (hH : gH w n Rm M s H locs) (hl : lv_has ls 9 [(0, .ref (w.1 + a0)), (1, .int (gi x1)), (2, .int (gi x2)), (3, .int (gi x3)), (4, .int (gi x4)), (5, .int (gi x5)), (7, .int (gi x7))]), W p l e { frames := 2, cells := 0, slots := 0, locals := 86 } s m args below meth c H locs 0 0 (gQ w n Rm below args s 0 0 (.inr (some (.int (gi r.1)))) r.2 (gRI r.1)) (F0 m 78 ls [])) : ∀ (a0 : Nat) (x1 : Int) (x2 : Int) (x3 : Int) (x4 : Int) (x5 : Int) (x7 : Int) (M : gMem) (r : (Int × gMem)) (hg0 : g a0 = 9) (hr1 : gRI x1) (hr2 : gRI x2) (hr3 : gRI x3) (hr4 : gRI x4) (hr5 : gRI x5) (hr7 : gRI x7) (hf : fX9_append_128 g k78 a0 x1 x2 x3 x4 x5 x7 M = some r) (H : Heap) (locs : List Loc) (ls : Array Slot) (hH : gH w n Rm M s H locs) (hl : lv_has ls 9 [(0, .ref (w.1 + a0)), (1, .int (gi x1)), (2, .int (gi x2)), (3, .int (gi x3)), (4, .int (gi x4)), (5, .int (gi x5)), (7, .int (gi x7))]), W p l e { frames := 2, cells := 0, slots := 0, locals := 86 } s m args below meth c H locs 0 0 (gQ w n Rm below args s 0 0 (.inr (some (.int (gi r.1)))) r.2 (gRI r.1)) (F0 m 128 ls []) := by
  intro a0 x1 x2 x3 x4 x5 x7 M r hg0 hr1 hr2 hr3 hr4 hr5 hr7 hf H locs ls hH hl
  unfold fX9_append_128 at hf
  obtain ⟨x_1, ex_1, hf⟩ := gst_s hf
  have hx_1 : gRI x_1 := by rw [ex_1]; exact gwi_r _
  refine r_iinc (lv' := [(7, .int (gi x_1)), (0, .ref (w.1 + a0)), (1, .int (gi x1)), (2, .int (gi x2)), (3, .int (gi x3)), (4, .int (gi x4)), (5, .int (gi x5))]) hM.fx dX9_append_128 hl (k := 6) rfl (by decide) (by rw [ex_1]; rfl) (fun ls hl => ?_)
  refine lv_goto (tgt := 78) hM.fx.1 hM.fx.2.1 dX9_append_131 (by decide) ?_
  exact hk78 _ _ _ _ _ _ _ _ _ hg0 hr1 hr2 hr3 hr4 hr5 hx_1 hf _ _ _ hH (lv_sub hl [1, 2, 3, 4, 5, 6, 0] rfl)
def fX9_append_78 (g : Nat → Nat)  : Nat → Nat → Int → Int → Int → Int → Int → Int → gMem → Option (Int × gMem)
  | 0, _, _, _, _, _, _, _, _ => none
  | fu + 1, a0, x1, x2, x3, x4, x5, x7, M => if 20 ≤ x7 then (some (M a0 9, M)) else ((fX9_byteOf g x7 x1 x2 x3 x4 x5).bind fun x_4 => if x_4 = 0 then (fX9_append_128 g (fX9_append_78 g fu) a0 x1 x2 x3 x4 x5 x7 M) else (if (0 : Int) ≤ M a0 9 ∧ (M a0 9 : Int) < 600 then gst (gup M (a0 + 7) (M a0 9).toNat x_4) fun M_8 => gst (gup M_8 a0 9 (gwi (M_8 a0 9 + 1))) fun M_10 => fX9_append_128 g (fX9_append_78 g fu) a0 x1 x2 x3 x4 x5 x7 M_10 else none))
set_option maxHeartbeats 4000000 in
set_option maxRecDepth 100000 in
theorem wX9_append_78 {w : gW} {n : Nat} {Rm : Nat → Nat → Nat} {g : Nat → Nat} (hLC : gLC g n Rm) {p : Program} {l : Launch} {e : Env} {s : State} {m : MethodId} {args : Array Value} {below : List Frame} {meth : Method} {c : Code} (hM : gMC w p l s m args meth c cX9_append 9 RX9 (some .int))  : ∀ (fu : Nat), ∀ (a0 : Nat) (x1 : Int) (x2 : Int) (x3 : Int) (x4 : Int) (x5 : Int) (x7 : Int) (M : gMem) (r : (Int × gMem)) (hg0 : g a0 = 9) (hr1 : gRI x1) (hr2 : gRI x2) (hr3 : gRI x3) (hr4 : gRI x4) (hr5 : gRI x5) (hr7 : gRI x7) (hf : fX9_append_78 g fu a0 x1 x2 x3 x4 x5 x7 M = some r) (H : Heap) (locs : List Loc) (ls : Array Slot) (hH : gH w n Rm M s H locs) (hl : lv_has ls 9 [(0, .ref (w.1 + a0)), (1, .int (gi x1)), (2, .int (gi x2)), (3, .int (gi x3)), (4, .int (gi x4)), (5, .int (gi x5)), (7, .int (gi x7))]), W p l e { frames := 2, cells := 0, slots := 0, locals := 86 } s m args below meth c H locs 0 0 (gQ w n Rm below args s 0 0 (.inr (some (.int (gi r.1)))) r.2 (gRI r.1)) (F0 m 78 ls []) := by
  intro fu
  induction fu with
  | zero =>
    intro a0 x1 x2 x3 x4 x5 x7 M r hg0 hr1 hr2 hr3 hr4 hr5 hr7 hf H locs ls hH hl
    exact absurd hf (by simp [fX9_append_78])
  | succ fu ih =>
    intro a0 x1 x2 x3 x4 x5 x7 M r hg0 hr1 hr2 hr3 hr4 hr5 hr7 hf H locs ls hH hl
    unfold fX9_append_78 at hf
    refine lv_iload hM.fx.1 hM.fx.2.1 dX9_append_78 (lv_at hl 6 rfl) ?_
    refine lv_bipush (v := gi (20)) hM.fx.1 hM.fx.2.1 dX9_append_80 (by decide) ?_
    refine r_icmp_ge (tgt := 134) hM.fx hr7 (gcR (k := 20) (by decide)) dX9_append_82 (by decide) (fun h_1 => ?_) (fun h_1 => ?_)
    · have hf := gpos h_1 hf
      refine lv_aload_n hM.fx.1 hM.fx.2.1 dX9_append_134 rfl (lv_at hl 0 rfl) ?_
      refine r_getI hM.fx hM.kf hH fl_X9_68 (hLC.in hg0 (by decide)) dX9_append_135 ?_
      have hr_2 := hH.2.2.i (hLC.in hg0 (by decide)).2.2 (by decide : glg 9 9 = false)
      obtain rfl := Option.some.inj hf
      exact r_iret hM hH hr_2 ⟨(Nat.le_of_ble_eq_true rfl), (Nat.le_of_ble_eq_true rfl)⟩ dX9_append_138
    · have hf := gneg' h_1 hf
      refine lv_iload hM.fx.1 hM.fx.2.1 dX9_append_85 (lv_at hl 6 rfl) ?_
      refine lv_iload_n hM.fx.1 hM.fx.2.1 dX9_append_87 rfl (lv_at hl 1 rfl) ?_
      refine lv_iload_n hM.fx.1 hM.fx.2.1 dX9_append_88 rfl (lv_at hl 2 rfl) ?_
      refine lv_iload_n hM.fx.1 hM.fx.2.1 dX9_append_89 rfl (lv_at hl 3 rfl) ?_
      refine lv_iload hM.fx.1 hM.fx.2.1 dX9_append_90 (lv_at hl 4 rfl) ?_
      refine lv_iload hM.fx.1 hM.fx.2.1 dX9_append_92 (lv_at hl 5 rfl) ?_
      obtain ⟨x_4, ex_4, hf⟩ := gbd hf
      refine r_go1 hH rfl (r_runS (As := [.int (gi x7), .int (gi x1), .int (gi x2), .int (gi x3), .int (gi x4), .int (gi x5)]) hM hH cs_X9_64 (mX9_byteOf hLC hM.ns hr7 hr1 hr2 hr3 hr4 hr5 ex_4) rfl hl.1 rfl (Nat.le_of_ble_eq_true rfl) ⟨(Nat.le_of_ble_eq_true rfl), (Nat.le_of_ble_eq_true rfl)⟩ ⟨(Nat.le_of_ble_eq_true rfl), (Nat.le_of_ble_eq_true rfl)⟩ dX9_append_94) (fun hp_3 H locs hH => ?_)
      refine lv_istore (lv' := [(8, .int (gi x_4)), (0, .ref (w.1 + a0)), (1, .int (gi x1)), (2, .int (gi x2)), (3, .int (gi x3)), (4, .int (gi x4)), (5, .int (gi x5)), (7, .int (gi x7))]) hM.fx.1 hM.fx.2.1 dX9_append_97 hl (by decide) rfl (fun ls hl => ?_)
      refine lv_iload hM.fx.1 hM.fx.2.1 dX9_append_99 (lv_at hl 0 rfl) ?_
      refine r_if_ne (tgt := 107) hM.fx hp_3 dX9_append_101 (by decide) (fun h_5 => ?_) (fun h_5 => ?_)
      · have hf := gneg' h_5 hf
        refine lv_aload_n hM.fx.1 hM.fx.2.1 dX9_append_107 rfl (lv_at hl 1 rfl) ?_
        refine r_getR hM.fx hM.kf hH hLC fl_X9_29 hg0 gch_9_8 dX9_append_108 ?_
        refine lv_aload_n hM.fx.1 hM.fx.2.1 dX9_append_111 rfl (lv_at hl 1 rfl) ?_
        refine r_getI hM.fx hM.kf hH fl_X9_68 (hLC.in hg0 (by decide)) dX9_append_112 ?_
        have hr_6 := hH.2.2.i (hLC.in hg0 (by decide)).2.2 (by decide : glg 9 9 = false)
        refine lv_iload hM.fx.1 hM.fx.2.1 dX9_append_115 (lv_at hl 0 rfl) ?_
        obtain ⟨g_7, hf⟩ := gif hf
        refine r_iast hM.fx hM.kf hH (hLC.in (hLC.ch hg0 (by decide) gch_9_8) (by decide)) (⟨by decide, by decide⟩ : gAr 9616 0) hr_6 g_7 hp_3 dX9_append_117 (fun H locs hH => ?_)
        obtain ⟨M_8, eM_8, hf⟩ := gst_s hf
        rw [← eM_8] at hH
        refine lv_aload_n hM.fx.1 hM.fx.2.1 dX9_append_118 rfl (lv_at hl 1 rfl) ?_
        refine lv_dup hM.fx.1 hM.fx.2.1 dX9_append_119 rfl ?_
        refine r_getI hM.fx hM.kf hH fl_X9_68 (hLC.in hg0 (by decide)) dX9_append_120 ?_
        have hr_9 := hH.2.2.i (hLC.in hg0 (by decide)).2.2 (by decide : glg 9 9 = false)
        refine lv_iconst (v := gi (1)) hM.fx.1 hM.fx.2.1 dX9_append_123 rfl ?_
        refine r_iadd hM.fx dX9_append_124 ?_
        refine r_putI hM.fx hM.kf hH fp_X9_68 (hLC.in hg0 (by decide)) (gwi_r _) dX9_append_125 (fun H locs hH => ?_)
        obtain ⟨M_10, eM_10, hf⟩ := gst_s hf
        rw [← eM_10] at hH
        exact wX9_append_128 hLC hM (fX9_append_78 g fu) ih  _ _ _ _ _ _ _ _ _ hg0 hr1 hr2 hr3 hr4 hr5 hr7 hf _ _ _ hH (lv_sub hl [1, 2, 3, 4, 5, 6, 7] rfl)
      · have hf := gpos h_5 hf
        refine lv_goto (tgt := 128) hM.fx.1 hM.fx.2.1 dX9_append_104 (by decide) ?_
        exact wX9_append_128 hLC hM (fX9_append_78 g fu) ih  _ _ _ _ _ _ _ _ _ hg0 hr1 hr2 hr3 hr4 hr5 hr7 hf _ _ _ hH (lv_sub hl [1, 2, 3, 4, 5, 6, 7] rfl)
def fX9_append_63 (g : Nat → Nat)  (a0 : Nat) (x1 : Int) (x2 : Int) (x3 : Int) (x4 : Int) (x5 : Int) (as0 : Nat) (xs1 : Int) (M : gMem) : Option (Int × gMem) :=
  gst (gup M as0 7 xs1) fun M_1 => if M_1 a0 7 ≤ 0 then (fX9_append_78 g gF a0 x1 x2 x3 x4 x5 0 M_1) else (some (0, M_1))
set_option maxHeartbeats 4000000 in
set_option maxRecDepth 100000 in
theorem wX9_append_63 {w : gW} {n : Nat} {Rm : Nat → Nat → Nat} {g : Nat → Nat} (hLC : gLC g n Rm) {p : Program} {l : Launch} {e : Env} {s : State} {m : MethodId} {args : Array Value} {below : List Frame} {meth : Method} {c : Code} (hM : gMC w p l s m args meth c cX9_append 9 RX9 (some .int))  : ∀ (a0 : Nat) (x1 : Int) (x2 : Int) (x3 : Int) (x4 : Int) (x5 : Int) (as0 : Nat) (xs1 : Int) (M : gMem) (r : (Int × gMem)) (hg0 : g a0 = 9) (hr1 : gRI x1) (hr2 : gRI x2) (hr3 : gRI x3) (hr4 : gRI x4) (hr5 : gRI x5) (hgs0 : g as0 = 9) (hrs1 : gRI xs1) (hf : fX9_append_63 g a0 x1 x2 x3 x4 x5 as0 xs1 M = some r) (H : Heap) (locs : List Loc) (ls : Array Slot) (hH : gH w n Rm M s H locs) (hl : lv_has ls 9 [(0, .ref (w.1 + a0)), (1, .int (gi x1)), (2, .int (gi x2)), (3, .int (gi x3)), (4, .int (gi x4)), (5, .int (gi x5))]), W p l e { frames := 2, cells := 0, slots := 0, locals := 86 } s m args below meth c H locs 0 0 (gQ w n Rm below args s 0 0 (.inr (some (.int (gi r.1)))) r.2 (gRI r.1)) (F0 m 63 ls [.int (gi xs1), .ref (w.1 + as0)]) := by
  intro a0 x1 x2 x3 x4 x5 as0 xs1 M r hg0 hr1 hr2 hr3 hr4 hr5 hgs0 hrs1 hf H locs ls hH hl
  unfold fX9_append_63 at hf
  refine r_putI hM.fx hM.kf hH fp_X9_46 (hLC.in hgs0 (by decide)) hrs1 dX9_append_63 (fun H locs hH => ?_)
  obtain ⟨M_1, eM_1, hf⟩ := gst_s hf
  rw [← eM_1] at hH
  refine lv_aload_n hM.fx.1 hM.fx.2.1 dX9_append_66 rfl (lv_at hl 0 rfl) ?_
  refine r_getI hM.fx hM.kf hH fl_X9_46 (hLC.in hg0 (by decide)) dX9_append_67 ?_
  have hr_2 := hH.2.2.i (hLC.in hg0 (by decide)).2.2 (by decide : glg 9 7 = false)
  refine r_if_le (tgt := 75) hM.fx hr_2 dX9_append_70 (by decide) (fun h_3 => ?_) (fun h_3 => ?_)
  · have hf := gpos h_3 hf
    refine lv_iconst (v := gi (0)) hM.fx.1 hM.fx.2.1 dX9_append_75 rfl ?_
    refine lv_istore (lv' := [(7, .int (gi 0)), (0, .ref (w.1 + a0)), (1, .int (gi x1)), (2, .int (gi x2)), (3, .int (gi x3)), (4, .int (gi x4)), (5, .int (gi x5))]) hM.fx.1 hM.fx.2.1 dX9_append_76 hl (by decide) rfl (fun ls hl => ?_)
    exact wX9_append_78 hLC hM  gF _ _ _ _ _ _ _ _ _ hg0 hr1 hr2 hr3 hr4 hr5 (gcR (k := 0) (by decide)) hf _ _ _ hH (lv_sub hl [1, 2, 3, 4, 5, 6, 0] rfl)
  · have hf := gneg' h_3 hf
    refine lv_iconst (v := gi (0)) hM.fx.1 hM.fx.2.1 dX9_append_73 rfl ?_
    obtain rfl := Option.some.inj hf
    exact r_iret hM hH (gcR (k := 0) (by decide)) ⟨(Nat.le_of_ble_eq_true rfl), (Nat.le_of_ble_eq_true rfl)⟩ dX9_append_74
def fX9_append_35 (g : Nat → Nat) (k6 : Nat → Int → Int → Int → Int → Int → Int → Int → gMem → Option (Int × gMem)) (a0 : Nat) (x1 : Int) (x2 : Int) (x3 : Int) (x4 : Int) (x5 : Int) (x7 : Int) (xs0 : Int) (xs1 : Int) (M : gMem) : Option (Int × gMem) :=
  gst (gwi (xs0 + xs1)) fun x_1 => gst (gwi (x7 + 1)) fun x_2 => k6 a0 x1 x2 x3 x4 x5 x_1 x_2 M
set_option maxHeartbeats 4000000 in
set_option maxRecDepth 100000 in
theorem wX9_append_35 {w : gW} {n : Nat} {Rm : Nat → Nat → Nat} {g : Nat → Nat} (hLC : gLC g n Rm) {p : Program} {l : Launch} {e : Env} {s : State} {m : MethodId} {args : Array Value} {below : List Frame} {meth : Method} {c : Code} (hM : gMC w p l s m args meth c cX9_append 9 RX9 (some .int)) (k6 : Nat → Int → Int → Int → Int → Int → Int → Int → gMem → Option (Int × gMem)) (hk6 : ∀ (a0 : Nat) (x1 : Int) (x2 : Int) (x3 : Int) (x4 : Int) (x5 : Int) (x6 : Int) (x7 : Int) (M : gMem) (r : (Int × gMem)) (hg0 : g a0 = 9) (hr1 : gRI x1) (hr2 : gRI x2) (hr3 : gRI x3) (hr4 : gRI x4) (hr5 : gRI x5) (hr6 : gRI x6) (hr7 : gRI x7) (hf : k6 a0 x1 x2 x3 x4 x5 x6 x7 M = some r) (H : Heap) (locs : List Loc) (ls : Array Slot) (hH : gH w n Rm M s H locs) (hl : lv_has ls 9 [(0, .ref (w.1 + a0)), (1, .int (gi x1)), (2, .int (gi x2)), (3, .int (gi x3)), (4, .int (gi x4)), (5, .int (gi x5)), (6, .int (gi x6)), (7, .int (gi x7))]), W p l e { frames := 2, cells := 0, slots := 0, locals := 86 } s m args below meth c H locs 0 0 (gQ w n Rm below args s 0 0 (.inr (some (.int (gi r.1)))) r.2 (gRI r.1)) (F0 m 6 ls [])) : ∀ (a0 : Nat) (x1 : Int) (x2 : Int) (x3 : Int) (x4 : Int) (x5 : Int) (x7 : Int) (xs0 : Int) (xs1 : Int) (M : gMem) (r : (Int × gMem)) (hg0 : g a0 = 9) (hr1 : gRI x1) (hr2 : gRI x2) (hr3 : gRI x3) (hr4 : gRI x4) (hr5 : gRI x5) (hr7 : gRI x7) (hrs0 : gRI xs0) (hrs1 : gRI xs1) (hf : fX9_append_35 g k6 a0 x1 x2 x3 x4 x5 x7 xs0 xs1 M = some r) (H : Heap) (locs : List Loc) (ls : Array Slot) (hH : gH w n Rm M s H locs) (hl : lv_has ls 9 [(0, .ref (w.1 + a0)), (1, .int (gi x1)), (2, .int (gi x2)), (3, .int (gi x3)), (4, .int (gi x4)), (5, .int (gi x5)), (7, .int (gi x7))]), W p l e { frames := 2, cells := 0, slots := 0, locals := 86 } s m args below meth c H locs 0 0 (gQ w n Rm below args s 0 0 (.inr (some (.int (gi r.1)))) r.2 (gRI r.1)) (F0 m 35 ls [.int (gi xs1), .int (gi xs0)]) := by
  intro a0 x1 x2 x3 x4 x5 x7 xs0 xs1 M r hg0 hr1 hr2 hr3 hr4 hr5 hr7 hrs0 hrs1 hf H locs ls hH hl
  unfold fX9_append_35 at hf
  refine r_iadd hM.fx dX9_append_35 ?_
  obtain ⟨x_1, ex_1, hf⟩ := gst_s hf
  refine W.eq (g2 := F0 m _ ls (.int (gi x_1) :: _)) (by rw [ex_1]) ?_
  have hx_1 : gRI x_1 := by rw [ex_1]; exact (gwi_r _)
  refine lv_istore (lv' := [(6, .int (gi x_1)), (0, .ref (w.1 + a0)), (1, .int (gi x1)), (2, .int (gi x2)), (3, .int (gi x3)), (4, .int (gi x4)), (5, .int (gi x5)), (7, .int (gi x7))]) hM.fx.1 hM.fx.2.1 dX9_append_36 hl (by decide) rfl (fun ls hl => ?_)
  obtain ⟨x_2, ex_2, hf⟩ := gst_s hf
  have hx_2 : gRI x_2 := by rw [ex_2]; exact gwi_r _
  refine r_iinc (lv' := [(7, .int (gi x_2)), (6, .int (gi x_1)), (0, .ref (w.1 + a0)), (1, .int (gi x1)), (2, .int (gi x2)), (3, .int (gi x3)), (4, .int (gi x4)), (5, .int (gi x5))]) hM.fx dX9_append_38 hl (k := 7) rfl (by decide) (by rw [ex_2]; rfl) (fun ls hl => ?_)
  refine lv_goto (tgt := 6) hM.fx.1 hM.fx.2.1 dX9_append_41 (by decide) ?_
  exact hk6 _ _ _ _ _ _ _ _ _ _ hg0 hr1 hr2 hr3 hr4 hr5 hx_1 hx_2 hf _ _ _ hH (lv_sub hl [2, 3, 4, 5, 6, 7, 1, 0] rfl)
def fX9_append_6 (g : Nat → Nat)  : Nat → Nat → Int → Int → Int → Int → Int → Int → Int → gMem → Option (Int × gMem)
  | 0, _, _, _, _, _, _, _, _, _ => none
  | fu + 1, a0, x1, x2, x3, x4, x5, x6, x7, M => if 20 ≤ x7 then (if gwi (M a0 9 + x6) ≤ 600 then (fX9_append_63 g a0 x1 x2 x3 x4 x5 a0 0 M) else (fX9_append_63 g a0 x1 x2 x3 x4 x5 a0 1 M)) else ((fX9_byteOf g x7 x1 x2 x3 x4 x5).bind fun x_5 => if x_5 = 0 then (fX9_append_35 g (fX9_append_6 g fu) a0 x1 x2 x3 x4 x5 x7 x6 0 M) else (fX9_append_35 g (fX9_append_6 g fu) a0 x1 x2 x3 x4 x5 x7 x6 1 M))
set_option maxHeartbeats 4000000 in
set_option maxRecDepth 100000 in
theorem wX9_append_6 {w : gW} {n : Nat} {Rm : Nat → Nat → Nat} {g : Nat → Nat} (hLC : gLC g n Rm) {p : Program} {l : Launch} {e : Env} {s : State} {m : MethodId} {args : Array Value} {below : List Frame} {meth : Method} {c : Code} (hM : gMC w p l s m args meth c cX9_append 9 RX9 (some .int))  : ∀ (fu : Nat), ∀ (a0 : Nat) (x1 : Int) (x2 : Int) (x3 : Int) (x4 : Int) (x5 : Int) (x6 : Int) (x7 : Int) (M : gMem) (r : (Int × gMem)) (hg0 : g a0 = 9) (hr1 : gRI x1) (hr2 : gRI x2) (hr3 : gRI x3) (hr4 : gRI x4) (hr5 : gRI x5) (hr6 : gRI x6) (hr7 : gRI x7) (hf : fX9_append_6 g fu a0 x1 x2 x3 x4 x5 x6 x7 M = some r) (H : Heap) (locs : List Loc) (ls : Array Slot) (hH : gH w n Rm M s H locs) (hl : lv_has ls 9 [(0, .ref (w.1 + a0)), (1, .int (gi x1)), (2, .int (gi x2)), (3, .int (gi x3)), (4, .int (gi x4)), (5, .int (gi x5)), (6, .int (gi x6)), (7, .int (gi x7))]), W p l e { frames := 2, cells := 0, slots := 0, locals := 86 } s m args below meth c H locs 0 0 (gQ w n Rm below args s 0 0 (.inr (some (.int (gi r.1)))) r.2 (gRI r.1)) (F0 m 6 ls []) := by
  intro fu
  induction fu with
  | zero =>
    intro a0 x1 x2 x3 x4 x5 x6 x7 M r hg0 hr1 hr2 hr3 hr4 hr5 hr6 hr7 hf H locs ls hH hl
    exact absurd hf (by simp [fX9_append_6])
  | succ fu ih =>
    intro a0 x1 x2 x3 x4 x5 x6 x7 M r hg0 hr1 hr2 hr3 hr4 hr5 hr6 hr7 hf H locs ls hH hl
    unfold fX9_append_6 at hf
    refine lv_iload hM.fx.1 hM.fx.2.1 dX9_append_6 (lv_at hl 7 rfl) ?_
    refine lv_bipush (v := gi (20)) hM.fx.1 hM.fx.2.1 dX9_append_8 (by decide) ?_
    refine r_icmp_ge (tgt := 44) hM.fx hr7 (gcR (k := 20) (by decide)) dX9_append_10 (by decide) (fun h_1 => ?_) (fun h_1 => ?_)
    · have hf := gpos h_1 hf
      refine lv_aload_n hM.fx.1 hM.fx.2.1 dX9_append_44 rfl (lv_at hl 0 rfl) ?_
      refine lv_aload_n hM.fx.1 hM.fx.2.1 dX9_append_45 rfl (lv_at hl 0 rfl) ?_
      refine r_getI hM.fx hM.kf hH fl_X9_68 (hLC.in hg0 (by decide)) dX9_append_46 ?_
      have hr_2 := hH.2.2.i (hLC.in hg0 (by decide)).2.2 (by decide : glg 9 9 = false)
      refine lv_iload hM.fx.1 hM.fx.2.1 dX9_append_49 (lv_at hl 6 rfl) ?_
      refine r_iadd hM.fx dX9_append_51 ?_
      refine lv_sipush (v := gi (600)) hM.fx.1 hM.fx.2.1 dX9_append_52 (by decide) ?_
      refine r_icmp_le (tgt := 62) hM.fx (gwi_r _) (gcR (k := 600) (by decide)) dX9_append_55 (by decide) (fun h_3 => ?_) (fun h_3 => ?_)
      · have hf := gpos h_3 hf
        refine lv_iconst (v := gi (0)) hM.fx.1 hM.fx.2.1 dX9_append_62 rfl ?_
        exact wX9_append_63 hLC hM   _ _ _ _ _ _ _ _ _ _ hg0 hr1 hr2 hr3 hr4 hr5 hg0 (gcR (k := 0) (by decide)) hf _ _ _ hH (lv_sub hl [0, 1, 2, 3, 4, 5] rfl)
      · have hf := gneg' h_3 hf
        refine lv_iconst (v := gi (1)) hM.fx.1 hM.fx.2.1 dX9_append_58 rfl ?_
        refine lv_goto (tgt := 63) hM.fx.1 hM.fx.2.1 dX9_append_59 (by decide) ?_
        exact wX9_append_63 hLC hM   _ _ _ _ _ _ _ _ _ _ hg0 hr1 hr2 hr3 hr4 hr5 hg0 (gcR (k := 1) (by decide)) hf _ _ _ hH (lv_sub hl [0, 1, 2, 3, 4, 5] rfl)
    · have hf := gneg' h_1 hf
      refine lv_iload hM.fx.1 hM.fx.2.1 dX9_append_13 (lv_at hl 6 rfl) ?_
      refine lv_iload hM.fx.1 hM.fx.2.1 dX9_append_15 (lv_at hl 7 rfl) ?_
      refine lv_iload_n hM.fx.1 hM.fx.2.1 dX9_append_17 rfl (lv_at hl 1 rfl) ?_
      refine lv_iload_n hM.fx.1 hM.fx.2.1 dX9_append_18 rfl (lv_at hl 2 rfl) ?_
      refine lv_iload_n hM.fx.1 hM.fx.2.1 dX9_append_19 rfl (lv_at hl 3 rfl) ?_
      refine lv_iload hM.fx.1 hM.fx.2.1 dX9_append_20 (lv_at hl 4 rfl) ?_
      refine lv_iload hM.fx.1 hM.fx.2.1 dX9_append_22 (lv_at hl 5 rfl) ?_
      obtain ⟨x_5, ex_5, hf⟩ := gbd hf
      refine r_go1 hH rfl (r_runS (As := [.int (gi x7), .int (gi x1), .int (gi x2), .int (gi x3), .int (gi x4), .int (gi x5)]) hM hH cs_X9_64 (mX9_byteOf hLC hM.ns hr7 hr1 hr2 hr3 hr4 hr5 ex_5) rfl hl.1 rfl (Nat.le_of_ble_eq_true rfl) ⟨(Nat.le_of_ble_eq_true rfl), (Nat.le_of_ble_eq_true rfl)⟩ ⟨(Nat.le_of_ble_eq_true rfl), (Nat.le_of_ble_eq_true rfl)⟩ dX9_append_24) (fun hp_4 H locs hH => ?_)
      refine r_if_ne (tgt := 34) hM.fx hp_4 dX9_append_27 (by decide) (fun h_6 => ?_) (fun h_6 => ?_)
      · have hf := gneg' h_6 hf
        refine lv_iconst (v := gi (1)) hM.fx.1 hM.fx.2.1 dX9_append_34 rfl ?_
        exact wX9_append_35 hLC hM (fX9_append_6 g fu) ih  _ _ _ _ _ _ _ _ _ _ _ hg0 hr1 hr2 hr3 hr4 hr5 hr7 hr6 (gcR (k := 1) (by decide)) hf _ _ _ hH (lv_sub hl [0, 1, 2, 3, 4, 5, 7] rfl)
      · have hf := gpos h_6 hf
        refine lv_iconst (v := gi (0)) hM.fx.1 hM.fx.2.1 dX9_append_30 rfl ?_
        refine lv_goto (tgt := 35) hM.fx.1 hM.fx.2.1 dX9_append_31 (by decide) ?_
        exact wX9_append_35 hLC hM (fX9_append_6 g fu) ih  _ _ _ _ _ _ _ _ _ _ _ hg0 hr1 hr2 hr3 hr4 hr5 hr7 hr6 (gcR (k := 0) (by decide)) hf _ _ _ hH (lv_sub hl [0, 1, 2, 3, 4, 5, 7] rfl)
def fX9_append (g : Nat → Nat) (a0 : Nat) (x1 : Int) (x2 : Int) (x3 : Int) (x4 : Int) (x5 : Int) (M : gMem) : Option (Int × gMem) :=
  fX9_append_6 g gF a0 x1 x2 x3 x4 x5 0 0 M
set_option maxHeartbeats 4000000 in
set_option maxRecDepth 100000 in
theorem mX9_append {w : gW} {n : Nat} {Rm : Nat → Nat → Nat} {g : Nat → Nat} (hLC : gLC g n Rm) {l : Launch} (hl9 : l.stackTraces = false) {a0 : Nat} {x1 : Int} {x2 : Int} {x3 : Int} {x4 : Int} {x5 : Int} {M : gMem} {r : (Int × gMem)} (hg0 : g a0 = 9) (hr1 : gRI x1) (hr2 : gRI x2) (hr3 : gRI x3) (hr4 : gRI x4) (hr5 : gRI x5) (hf : fX9_append g a0 x1 x2 x3 x4 x5 M = some r) : gMT w n Rm l yX9_append cX9_append 9 (some .int) 2 86 0 0 [.ref (w.1 + a0), .int (gi x1), .int (gi x2), .int (gi x3), .int (gi x4), .int (gi x5)] M (.inr (some (.int (gi r.1)))) r.2 (gRI r.1) := by
  unfold fX9_append at hf
  refine gMT.of hl9 (by decide +kernel) ((Nat.le_of_ble_eq_true rfl)) ?_
  intro p e s m below meth c hM hH ls hl
  have hM : gMC w p l s m ([.ref (w.1 + a0), .int (gi x1), .int (gi x2), .int (gi x3), .int (gi x4), .int (gi x5)] : List Value).toArray meth c cX9_append 9 RX9 (some .int) := hM
  have hl : lv_has ls 9 [(0, .ref (w.1 + a0)), (1, .int (gi x1)), (2, .int (gi x2)), (3, .int (gi x3)), (4, .int (gi x4)), (5, .int (gi x5))] := hl
  refine lv_iconst (v := gi (0)) hM.fx.1 hM.fx.2.1 dX9_append_0 rfl ?_
  refine lv_istore (lv' := [(6, .int (gi 0)), (0, .ref (w.1 + a0)), (1, .int (gi x1)), (2, .int (gi x2)), (3, .int (gi x3)), (4, .int (gi x4)), (5, .int (gi x5))]) hM.fx.1 hM.fx.2.1 dX9_append_1 hl (by decide) rfl (fun ls hl => ?_)
  refine lv_iconst (v := gi (0)) hM.fx.1 hM.fx.2.1 dX9_append_3 rfl ?_
  refine lv_istore (lv' := [(7, .int (gi 0)), (6, .int (gi 0)), (0, .ref (w.1 + a0)), (1, .int (gi x1)), (2, .int (gi x2)), (3, .int (gi x3)), (4, .int (gi x4)), (5, .int (gi x5))]) hM.fx.1 hM.fx.2.1 dX9_append_4 hl (by decide) rfl (fun ls hl => ?_)
  exact wX9_append_6 hLC hM  gF _ _ _ _ _ _ _ _ _ _ hg0 hr1 hr2 hr3 hr4 hr5 (gcR (k := 0) (by decide)) (gcR (k := 0) (by decide)) hf _ _ _ hH (lv_sub hl [2, 3, 4, 5, 6, 7, 1, 0] rfl)
def fX9_see (g : Nat → Nat) (a0 : Nat) (x1 : Int) (M : gMem) : Option Int :=
  if M a0 9 ≤ x1 then (some (-1)) else (if (0 : Int) ≤ x1 ∧ (x1 : Int) < 600 then some (M (a0 + 7) x1.toNat) else none)
set_option maxHeartbeats 4000000 in
set_option maxRecDepth 100000 in
theorem mX9_see {w : gW} {n : Nat} {Rm : Nat → Nat → Nat} {g : Nat → Nat} (hLC : gLC g n Rm) {l : Launch} (hl9 : l.stackTraces = false) {a0 : Nat} {x1 : Int} {M : gMem} {r : Int} (hg0 : g a0 = 9) (hr1 : gRI x1) (hf : fX9_see g a0 x1 M = some r) : gMT w n Rm l yX9_see cX9_see 2 (some .int) 1 60 0 0 [.ref (w.1 + a0), .int (gi x1)] M (.inr (some (.int (gi r)))) M (gRI r) := by
  unfold fX9_see at hf
  refine gMT.of hl9 (by decide +kernel) ((Nat.le_of_ble_eq_true rfl)) ?_
  intro p e s m below meth c hM hH ls hl
  have hM : gMC w p l s m ([.ref (w.1 + a0), .int (gi x1)] : List Value).toArray meth c cX9_see 2 RX9 (some .int) := hM
  have hl : lv_has ls 2 [(0, .ref (w.1 + a0)), (1, .int (gi x1))] := hl
  refine lv_iload_n hM.fx.1 hM.fx.2.1 dX9_see_0 rfl (lv_at hl 1 rfl) ?_
  refine lv_aload_n hM.fx.1 hM.fx.2.1 dX9_see_1 rfl (lv_at hl 0 rfl) ?_
  refine r_getI hM.fx hM.kf hH fl_X9_68 (hLC.in hg0 (by decide)) dX9_see_2 ?_
  have hr_1 := hH.2.2.i (hLC.in hg0 (by decide)).2.2 (by decide : glg 9 9 = false)
  refine r_icmp_ge (tgt := 17) hM.fx hr1 hr_1 dX9_see_5 (by decide) (fun h_2 => ?_) (fun h_2 => ?_)
  · have hf := gpos h_2 hf
    refine lv_iconst (v := gi (-1)) hM.fx.1 hM.fx.2.1 dX9_see_17 rfl ?_
    obtain rfl := Option.some.inj hf
    exact r_iret hM hH (gcR (k := -1) (by decide)) ⟨(Nat.le_of_ble_eq_true rfl), (Nat.le_of_ble_eq_true rfl)⟩ dX9_see_18
  · have hf := gneg' h_2 hf
    refine lv_aload_n hM.fx.1 hM.fx.2.1 dX9_see_8 rfl (lv_at hl 0 rfl) ?_
    refine r_getR hM.fx hM.kf hH hLC fl_X9_29 hg0 gch_9_8 dX9_see_9 ?_
    refine lv_iload_n hM.fx.1 hM.fx.2.1 dX9_see_12 rfl (lv_at hl 1 rfl) ?_
    obtain ⟨g_3, hf⟩ := gif hf
    refine r_iald hM.fx hM.kf hH (hLC.in (hLC.ch hg0 (by decide) gch_9_8) (by decide)) (⟨by decide, by decide⟩ : gAr 9616 0) hr1 g_3 dX9_see_13 ?_
    have hr_4 := hH.2.2.i (k := x1.toNat) (hLC.in (hLC.ch hg0 (by decide) gch_9_8) (by decide)).2.2 (glg_a (⟨by decide, by decide⟩ : gAr 9616 0))
    refine lv_goto (tgt := 18) hM.fx.1 hM.fx.2.1 dX9_see_14 (by decide) ?_
    obtain rfl := Option.some.inj hf
    exact r_iret hM hH hr_4 ⟨(Nat.le_of_ble_eq_true rfl), (Nat.le_of_ble_eq_true rfl)⟩ dX9_see_18
def fX9_isLetter (g : Nat → Nat) (a0 : Nat) (x1 : Int) (M : gMem) : Option Int :=
  (fX9_see g a0 x1 M).bind fun x_2 => (fX9_isIn g x_2 97 122).bind fun x_4 => some x_4
set_option maxHeartbeats 4000000 in
set_option maxRecDepth 100000 in
theorem mX9_isLetter {w : gW} {n : Nat} {Rm : Nat → Nat → Nat} {g : Nat → Nat} (hLC : gLC g n Rm) {l : Launch} (hl9 : l.stackTraces = false) {a0 : Nat} {x1 : Int} {M : gMem} {r : Int} (hg0 : g a0 = 9) (hr1 : gRI x1) (hf : fX9_isLetter g a0 x1 M = some r) : gMT w n Rm l yX9_isLetter cX9_isLetter 2 (some .boolean) 2 82 0 0 [.ref (w.1 + a0), .int (gi x1)] M (.inr (some (.int (gi r)))) M (r = 0 ∨ r = 1) := by
  unfold fX9_isLetter at hf
  refine gMT.of hl9 (by decide +kernel) ((Nat.le_of_ble_eq_true rfl)) ?_
  intro p e s m below meth c hM hH ls hl
  have hM : gMC w p l s m ([.ref (w.1 + a0), .int (gi x1)] : List Value).toArray meth c cX9_isLetter 2 RX9 (some .boolean) := hM
  have hl : lv_has ls 2 [(0, .ref (w.1 + a0)), (1, .int (gi x1))] := hl
  refine lv_aload_n hM.fx.1 hM.fx.2.1 dX9_isLetter_0 rfl (lv_at hl 0 rfl) ?_
  refine lv_iload_n hM.fx.1 hM.fx.2.1 dX9_isLetter_1 rfl (lv_at hl 1 rfl) ?_
  obtain ⟨x_2, ex_2, hf⟩ := gbd hf
  refine r_go1 hH rfl (r_runV (As := [.int (gi x1)]) hM hH cv_X9_71 (mX9_see hLC hM.ns hg0 hr1 ex_2) (hLC.in hg0 (by decide)) (by decide) rfl rfl rfl hl.1 rfl (Nat.le_of_ble_eq_true rfl) ⟨(Nat.le_of_ble_eq_true rfl), (Nat.le_of_ble_eq_true rfl)⟩ ⟨(Nat.le_of_ble_eq_true rfl), (Nat.le_of_ble_eq_true rfl)⟩ dX9_isLetter_2) (fun hp_1 H locs hH => ?_)
  refine lv_bipush (v := gi (97)) hM.fx.1 hM.fx.2.1 dX9_isLetter_5 (by decide) ?_
  refine lv_bipush (v := gi (122)) hM.fx.1 hM.fx.2.1 dX9_isLetter_7 (by decide) ?_
  obtain ⟨x_4, ex_4, hf⟩ := gbd hf
  refine r_go1 hH rfl (r_runS (As := [.int (gi x_2), .int (gi 97), .int (gi 122)]) hM hH cs_X9_56 (mX9_isIn hLC hM.ns hp_1 (gcR (k := 97) (by decide)) (gcR (k := 122) (by decide)) ex_4) rfl hl.1 rfl (Nat.le_of_ble_eq_true rfl) ⟨(Nat.le_of_ble_eq_true rfl), (Nat.le_of_ble_eq_true rfl)⟩ ⟨(Nat.le_of_ble_eq_true rfl), (Nat.le_of_ble_eq_true rfl)⟩ dX9_isLetter_9) (fun hp_3 H locs hH => ?_)
  obtain rfl := Option.some.inj hf
  exact r_zret hM hH hp_3 hp_3 ⟨(Nat.le_of_ble_eq_true rfl), (Nat.le_of_ble_eq_true rfl)⟩ dX9_isLetter_12
def fX9_isDigit (g : Nat → Nat) (a0 : Nat) (x1 : Int) (M : gMem) : Option Int :=
  (fX9_see g a0 x1 M).bind fun x_2 => (fX9_isIn g x_2 48 57).bind fun x_4 => some x_4
set_option maxHeartbeats 4000000 in
set_option maxRecDepth 100000 in
theorem mX9_isDigit {w : gW} {n : Nat} {Rm : Nat → Nat → Nat} {g : Nat → Nat} (hLC : gLC g n Rm) {l : Launch} (hl9 : l.stackTraces = false) {a0 : Nat} {x1 : Int} {M : gMem} {r : Int} (hg0 : g a0 = 9) (hr1 : gRI x1) (hf : fX9_isDigit g a0 x1 M = some r) : gMT w n Rm l yX9_isDigit cX9_isDigit 2 (some .boolean) 2 82 0 0 [.ref (w.1 + a0), .int (gi x1)] M (.inr (some (.int (gi r)))) M (r = 0 ∨ r = 1) := by
  unfold fX9_isDigit at hf
  refine gMT.of hl9 (by decide +kernel) ((Nat.le_of_ble_eq_true rfl)) ?_
  intro p e s m below meth c hM hH ls hl
  have hM : gMC w p l s m ([.ref (w.1 + a0), .int (gi x1)] : List Value).toArray meth c cX9_isDigit 2 RX9 (some .boolean) := hM
  have hl : lv_has ls 2 [(0, .ref (w.1 + a0)), (1, .int (gi x1))] := hl
  refine lv_aload_n hM.fx.1 hM.fx.2.1 dX9_isDigit_0 rfl (lv_at hl 0 rfl) ?_
  refine lv_iload_n hM.fx.1 hM.fx.2.1 dX9_isDigit_1 rfl (lv_at hl 1 rfl) ?_
  obtain ⟨x_2, ex_2, hf⟩ := gbd hf
  refine r_go1 hH rfl (r_runV (As := [.int (gi x1)]) hM hH cv_X9_71 (mX9_see hLC hM.ns hg0 hr1 ex_2) (hLC.in hg0 (by decide)) (by decide) rfl rfl rfl hl.1 rfl (Nat.le_of_ble_eq_true rfl) ⟨(Nat.le_of_ble_eq_true rfl), (Nat.le_of_ble_eq_true rfl)⟩ ⟨(Nat.le_of_ble_eq_true rfl), (Nat.le_of_ble_eq_true rfl)⟩ dX9_isDigit_2) (fun hp_1 H locs hH => ?_)
  refine lv_bipush (v := gi (48)) hM.fx.1 hM.fx.2.1 dX9_isDigit_5 (by decide) ?_
  refine lv_bipush (v := gi (57)) hM.fx.1 hM.fx.2.1 dX9_isDigit_7 (by decide) ?_
  obtain ⟨x_4, ex_4, hf⟩ := gbd hf
  refine r_go1 hH rfl (r_runS (As := [.int (gi x_2), .int (gi 48), .int (gi 57)]) hM hH cs_X9_56 (mX9_isIn hLC hM.ns hp_1 (gcR (k := 48) (by decide)) (gcR (k := 57) (by decide)) ex_4) rfl hl.1 rfl (Nat.le_of_ble_eq_true rfl) ⟨(Nat.le_of_ble_eq_true rfl), (Nat.le_of_ble_eq_true rfl)⟩ ⟨(Nat.le_of_ble_eq_true rfl), (Nat.le_of_ble_eq_true rfl)⟩ dX9_isDigit_9) (fun hp_3 H locs hH => ?_)
  obtain rfl := Option.some.inj hf
  exact r_zret hM hH hp_3 hp_3 ⟨(Nat.le_of_ble_eq_true rfl), (Nat.le_of_ble_eq_true rfl)⟩ dX9_isDigit_12
