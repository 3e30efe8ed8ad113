def fX8_slot (g : Nat → Nat) (a0 : Nat) (x1 : Int) (M : gMem) : Option (Nat ⊕ Int) :=
  gtry (fX8_checkSlot g a0 x1 M) (fun e_2 => some (.inl e_2)) fun u_3 => (fX0_lyingOn g (a0 + 1) x1 M).bind fun x_5 => some (.inr x_5)
set_option maxHeartbeats 4000000 in
set_option maxRecDepth 100000 in
theorem mX8_slot {w : gW} {n : Nat} {Rm : Nat → Nat → Nat} {g : Nat → Nat} (hLC : gLC g n Rm) {l : Launch} (hl9 : l.stackTraces = false) {a0 : Nat} {x1 : Int} {M : gMem} {r : (Nat ⊕ Int)} (hg0 : g a0 = 8) (hr1 : gRI x1) (hf : fX8_slot g a0 x1 M = some r) : gMT w n Rm l yX8_slot cX8_slot 2 (some .int) 7 121 1 6 [.ref (w.1 + a0), .int (gi x1)] M (gOcT (fun z => some (.int (gi z))) r) M (∀ z, r = .inr z → (gRI z)) := by
  unfold fX8_slot at hf
  refine gMT.of hl9 (by decide +kernel) ((Nat.le_of_ble_eq_true rfl)) ?_
  intro p e s m below meth c hM hH ls hl
  have hM : gMC w p l s m ([.ref (w.1 + a0), .int (gi x1)] : List Value).toArray meth c cX8_slot 2 RX8 (some .int) := hM
  have hl : lv_has ls 2 [(0, .ref (w.1 + a0)), (1, .int (gi x1))] := hl
  refine lv_aload_n hM.fx.1 hM.fx.2.1 dX8_slot_0 rfl (lv_at hl 0 rfl) ?_
  refine lv_iload_n hM.fx.1 hM.fx.2.1 dX8_slot_1 rfl (lv_at hl 1 rfl) ?_
  rcases gtry_s hf with ⟨e_2, qe_2, hf⟩ | ⟨u_3, qu_3, hf⟩
  · obtain rfl := Option.some.inj hf
    exact r_goX hM hH rfl (r_runV (As := [.int (gi x1)]) hM hH cv_X8_200 (mX8_checkSlot hLC hM.ns hg0 hr1 qe_2) (hLC.in hg0 (by decide)) (by decide) rfl rfl rfl hl.1 rfl (Nat.le_of_ble_eq_true rfl) ⟨(Nat.le_of_ble_eq_true rfl), (Nat.le_of_ble_eq_true rfl)⟩ ⟨(Nat.le_of_ble_eq_true rfl), (Nat.le_of_ble_eq_true rfl)⟩ dX8_slot_2) ⟨(Nat.le_of_ble_eq_true rfl), (Nat.le_of_ble_eq_true rfl)⟩
  refine r_go0 hH rfl (r_runV (As := [.int (gi x1)]) hM hH cv_X8_200 (mX8_checkSlot hLC hM.ns hg0 hr1 qu_3) (hLC.in hg0 (by decide)) (by decide) rfl rfl rfl hl.1 rfl (Nat.le_of_ble_eq_true rfl) ⟨(Nat.le_of_ble_eq_true rfl), (Nat.le_of_ble_eq_true rfl)⟩ ⟨(Nat.le_of_ble_eq_true rfl), (Nat.le_of_ble_eq_true rfl)⟩ dX8_slot_2) (fun hp_1 H locs hH => ?_)
  refine lv_aload_n hM.fx.1 hM.fx.2.1 dX8_slot_5 rfl (lv_at hl 0 rfl) ?_
  refine r_getR hM.fx hM.kf hH hLC fl_X8_10 hg0 gch_8_0 dX8_slot_6 ?_
  refine lv_iload_n hM.fx.1 hM.fx.2.1 dX8_slot_9 rfl (lv_at hl 1 rfl) ?_
  obtain ⟨x_5, ex_5, hf⟩ := gbd hf
  refine r_go1 hH rfl (r_runV (As := [.int (gi x1)]) hM hH cv_X8_203 (mX0_lyingOn hLC hM.ns (hLC.ch hg0 (by decide) gch_8_0) hr1 ex_5) (hLC.in (hLC.ch hg0 (by decide) gch_8_0) (by decide)) (by decide) rfl rfl rfl hl.1 rfl (Nat.le_of_ble_eq_true rfl) ⟨(Nat.le_of_ble_eq_true rfl), (Nat.le_of_ble_eq_true rfl)⟩ ⟨(Nat.le_of_ble_eq_true rfl), (Nat.le_of_ble_eq_true rfl)⟩ dX8_slot_10) (fun hp_4 H locs hH => ?_)
  obtain rfl := Option.some.inj hf
  exact r_iret hM hH (fun z hz => by cases hz; exact hp_4) ⟨(Nat.le_of_ble_eq_true rfl), (Nat.le_of_ble_eq_true rfl)⟩ dX8_slot_13
def fX8_command (g : Nat → Nat) (a0 : Nat) (x1 : Int) (x2 : Int) (x3 : Int) (M : gMem) : Option (Nat ⊕ Int) :=
  gtry (fX8_existingProc g a0 x1 M) (fun e_2 => some (.inl e_2)) fun a_3 => (fX4_kindAt g a_3 x2 M).bind fun x_5 => if x_5 = (-1) then (some (.inl 3)) else (if x3 = 0 then ((fX4_kindAt g a_3 x2 M).bind fun x_9 => some (.inr x_9)) else (if x3 = 1 then ((fX4_operandAt g a_3 x2 M).bind fun x_12 => some (.inr x_12)) else (some (.inl 2))))
set_option maxHeartbeats 4000000 in
set_option maxRecDepth 100000 in
theorem mX8_command {w : gW} {n : Nat} {Rm : Nat → Nat → Nat} {g : Nat → Nat} (hLC : gLC g n Rm) {l : Launch} (hl9 : l.stackTraces = false) {a0 : Nat} {x1 : Int} {x2 : Int} {x3 : Int} {M : gMem} {r : (Nat ⊕ Int)} (hg0 : g a0 = 8) (hr1 : gRI x1) (hr2 : gRI x2) (hr3 : gRI x3) (hf : fX8_command g a0 x1 x2 x3 M = some r) : gMT w n Rm l yX8_command cX8_command 5 (some .int) 7 122 3 18 [.ref (w.1 + a0), .int (gi x1), .int (gi x2), .int (gi x3)] M (gOcT (fun z => some (.int (gi z))) r) M (∀ z, r = .inr z → (gRI z)) := by
  unfold fX8_command at hf
  refine gMT.of hl9 (by decide +kernel) ((Nat.le_of_ble_eq_true rfl)) ?_
  intro p e s m below meth c hM hH ls hl
  have hM : gMC w p l s m ([.ref (w.1 + a0), .int (gi x1), .int (gi x2), .int (gi x3)] : List Value).toArray meth c cX8_command 5 RX8 (some .int) := hM
  have hl : lv_has ls 5 [(0, .ref (w.1 + a0)), (1, .int (gi x1)), (2, .int (gi x2)), (3, .int (gi x3))] := hl
  refine lv_aload_n hM.fx.1 hM.fx.2.1 dX8_command_0 rfl (lv_at hl 0 rfl) ?_
  refine lv_iload_n hM.fx.1 hM.fx.2.1 dX8_command_1 rfl (lv_at hl 1 rfl) ?_
  rcases gtry_s hf with ⟨e_2, qe_2, hf⟩ | ⟨a_3, qa_3, hf⟩
  · obtain rfl := Option.some.inj hf
    exact r_goX hM hH rfl (r_runV (As := [.int (gi x1)]) hM hH cv_X8_136 (mX8_existingProc hLC hM.ns hg0 hr1 qe_2) (hLC.in hg0 (by decide)) (by decide) rfl rfl rfl hl.1 rfl (Nat.le_of_ble_eq_true rfl) ⟨(Nat.le_of_ble_eq_true rfl), (Nat.le_of_ble_eq_true rfl)⟩ ⟨(Nat.le_of_ble_eq_true rfl), (Nat.le_of_ble_eq_true rfl)⟩ dX8_command_2) ⟨(Nat.le_of_ble_eq_true rfl), (Nat.le_of_ble_eq_true rfl)⟩
  refine r_go1 hH rfl (r_runV (As := [.int (gi x1)]) hM hH cv_X8_136 (mX8_existingProc hLC hM.ns hg0 hr1 qa_3) (hLC.in hg0 (by decide)) (by decide) rfl rfl rfl hl.1 rfl (Nat.le_of_ble_eq_true rfl) ⟨(Nat.le_of_ble_eq_true rfl), (Nat.le_of_ble_eq_true rfl)⟩ ⟨(Nat.le_of_ble_eq_true rfl), (Nat.le_of_ble_eq_true rfl)⟩ dX8_command_2) (fun hp_1 H locs hH => ?_)
  refine lv_astore (lv' := [(4, .ref (w.1 + a_3)), (0, .ref (w.1 + a0)), (1, .int (gi x1)), (2, .int (gi x2)), (3, .int (gi x3))]) hM.fx.1 hM.fx.2.1 dX8_command_5 hl (by decide) rfl (fun ls hl => ?_)
  refine lv_aload hM.fx.1 hM.fx.2.1 dX8_command_7 (lv_at hl 0 rfl) ?_
  refine lv_iload_n hM.fx.1 hM.fx.2.1 dX8_command_9 rfl (lv_at hl 3 rfl) ?_
  obtain ⟨x_5, ex_5, hf⟩ := gbd hf
  refine r_go1 hH rfl (r_runV (As := [.int (gi x2)]) hM hH cv_X8_206 (mX4_kindAt hLC hM.ns (hp_1 _ rfl) hr2 ex_5) (hLC.in (hp_1 _ rfl) (by decide)) (by decide) rfl rfl rfl hl.1 rfl (Nat.le_of_ble_eq_true rfl) ⟨(Nat.le_of_ble_eq_true rfl), (Nat.le_of_ble_eq_true rfl)⟩ ⟨(Nat.le_of_ble_eq_true rfl), (Nat.le_of_ble_eq_true rfl)⟩ dX8_command_10) (fun hp_4 H locs hH => ?_)
  refine lv_iconst (v := gi (-1)) hM.fx.1 hM.fx.2.1 dX8_command_13 rfl ?_
  refine r_icmp_ne (tgt := 27) hM.fx hp_4 (gcR (k := -1) (by decide)) dX8_command_14 (by decide) (fun h_6 => ?_) (fun h_6 => ?_)
  · have hf := gneg' h_6 hf
    refine lv_iload_n hM.fx.1 hM.fx.2.1 dX8_command_27 rfl (lv_at hl 4 rfl) ?_
    by_cases h_7 : x3 = 0
    · refine r_ls (tgt := 56) (off := 28) hM.fx hr3 dX8_command_28 (by decide) (congrArg (Op.lookupswitch.offset _ _) h_7) (by decide) ?_
      have hf := gpos h_7 hf
      refine lv_aload hM.fx.1 hM.fx.2.1 dX8_command_56 (lv_at hl 0 rfl) ?_
      refine lv_iload_n hM.fx.1 hM.fx.2.1 dX8_command_58 rfl (lv_at hl 3 rfl) ?_
      obtain ⟨x_9, ex_9, hf⟩ := gbd hf
      refine r_go1 hH rfl (r_runV (As := [.int (gi x2)]) hM hH cv_X8_206 (mX4_kindAt hLC hM.ns (hp_1 _ rfl) hr2 ex_9) (hLC.in (hp_1 _ rfl) (by decide)) (by decide) rfl rfl rfl hl.1 rfl (Nat.le_of_ble_eq_true rfl) ⟨(Nat.le_of_ble_eq_true rfl), (Nat.le_of_ble_eq_true rfl)⟩ ⟨(Nat.le_of_ble_eq_true rfl), (Nat.le_of_ble_eq_true rfl)⟩ dX8_command_59) (fun hp_8 H locs hH => ?_)
      obtain rfl := Option.some.inj hf
      exact r_iret hM hH (fun z hz => by cases hz; exact hp_8) ⟨(Nat.le_of_ble_eq_true rfl), (Nat.le_of_ble_eq_true rfl)⟩ dX8_command_62
    · have hf := gneg' h_7 hf
      by_cases h_10 : x3 = 1
      · refine r_ls (tgt := 63) (off := 35) hM.fx hr3 dX8_command_28 (by decide) (congrArg (Op.lookupswitch.offset _ _) h_10) (by decide) ?_
        have hf := gpos h_10 hf
        refine lv_aload hM.fx.1 hM.fx.2.1 dX8_command_63 (lv_at hl 0 rfl) ?_
        refine lv_iload_n hM.fx.1 hM.fx.2.1 dX8_command_65 rfl (lv_at hl 3 rfl) ?_
        obtain ⟨x_12, ex_12, hf⟩ := gbd hf
        refine r_go1 hH rfl (r_runV (As := [.int (gi x2)]) hM hH cv_X8_214 (mX4_operandAt hLC hM.ns (hp_1 _ rfl) hr2 ex_12) (hLC.in (hp_1 _ rfl) (by decide)) (by decide) rfl rfl rfl hl.1 rfl (Nat.le_of_ble_eq_true rfl) ⟨(Nat.le_of_ble_eq_true rfl), (Nat.le_of_ble_eq_true rfl)⟩ ⟨(Nat.le_of_ble_eq_true rfl), (Nat.le_of_ble_eq_true rfl)⟩ dX8_command_66) (fun hp_11 H locs hH => ?_)
        obtain rfl := Option.some.inj hf
        exact r_iret hM hH (fun z hz => by cases hz; exact hp_11) ⟨(Nat.le_of_ble_eq_true rfl), (Nat.le_of_ble_eq_true rfl)⟩ dX8_command_69
      · have hf := gneg' h_10 hf
        refine r_ls (tgt := 70) (off := 42) hM.fx hr3 dX8_command_28 (by decide) (by simp [Op.lookupswitch.offset, h_7, h_10, Ne.symm h_7, Ne.symm h_10]) (by decide) ?_
        obtain rfl := Option.some.inj hf
        exact r_throw (i := 29) (text := "no such number of a command") hM hH th_X8_131_135 rfl hl.1 dX8_command_70 dX8_command_73 dX8_command_74 dX8_command_76 dX8_command_79 ⟨(Nat.le_of_ble_eq_true rfl), (Nat.le_of_ble_eq_true rfl), (Nat.le_of_ble_eq_true rfl), (Nat.le_of_ble_eq_true rfl)⟩ ⟨(Nat.le_of_ble_eq_true rfl), (Nat.le_of_ble_eq_true rfl)⟩
  · have hf := gpos h_6 hf
    obtain rfl := Option.some.inj hf
    exact r_throw (i := 28) (text := "no such command") hM hH th_X8_209_213 rfl hl.1 dX8_command_17 dX8_command_20 dX8_command_21 dX8_command_23 dX8_command_26 ⟨(Nat.le_of_ble_eq_true rfl), (Nat.le_of_ble_eq_true rfl), (Nat.le_of_ble_eq_true rfl), (Nat.le_of_ble_eq_true rfl)⟩ ⟨(Nat.le_of_ble_eq_true rfl), (Nat.le_of_ble_eq_true rfl)⟩
def fX8_said (g : Nat → Nat) (a0 : Nat) (x1 : Int) (x2 : Int) (M : gMem) : Option (Nat ⊕ Int) :=
  gtry (fX8_existingProc g a0 x1 M) (fun e_2 => some (.inl e_2)) fun a_3 => (fX4_sayingAt g a_3 x2 M).bind fun x_5 => some (.inr x_5)
set_option maxHeartbeats 4000000 in
set_option maxRecDepth 100000 in
theorem mX8_said {w : gW} {n : Nat} {Rm : Nat → Nat → Nat} {g : Nat → Nat} (hLC : gLC g n Rm) {l : Launch} (hl9 : l.stackTraces = false) {a0 : Nat} {x1 : Int} {x2 : Int} {M : gMem} {r : (Nat ⊕ Int)} (hg0 : g a0 = 8) (hr1 : gRI x1) (hr2 : gRI x2) (hf : fX8_said g a0 x1 x2 M = some r) : gMT w n Rm l yX8_said cX8_said 3 (some .int) 7 122 1 6 [.ref (w.1 + a0), .int (gi x1), .int (gi x2)] M (gOcT (fun z => some (.int (gi z))) r) M (∀ z, r = .inr z → (gRI z)) := by
  unfold fX8_said at hf
  refine gMT.of hl9 (by decide +kernel) ((Nat.le_of_ble_eq_true rfl)) ?_
  intro p e s m below meth c hM hH ls hl
  have hM : gMC w p l s m ([.ref (w.1 + a0), .int (gi x1), .int (gi x2)] : List Value).toArray meth c cX8_said 3 RX8 (some .int) := hM
  have hl : lv_has ls 3 [(0, .ref (w.1 + a0)), (1, .int (gi x1)), (2, .int (gi x2))] := hl
  refine lv_aload_n hM.fx.1 hM.fx.2.1 dX8_said_0 rfl (lv_at hl 0 rfl) ?_
  refine lv_iload_n hM.fx.1 hM.fx.2.1 dX8_said_1 rfl (lv_at hl 1 rfl) ?_
  rcases gtry_s hf with ⟨e_2, qe_2, hf⟩ | ⟨a_3, qa_3, hf⟩
  · obtain rfl := Option.some.inj hf
    exact r_goX hM hH rfl (r_runV (As := [.int (gi x1)]) hM hH cv_X8_136 (mX8_existingProc hLC hM.ns hg0 hr1 qe_2) (hLC.in hg0 (by decide)) (by decide) rfl rfl rfl hl.1 rfl (Nat.le_of_ble_eq_true rfl) ⟨(Nat.le_of_ble_eq_true rfl), (Nat.le_of_ble_eq_true rfl)⟩ ⟨(Nat.le_of_ble_eq_true rfl), (Nat.le_of_ble_eq_true rfl)⟩ dX8_said_2) ⟨(Nat.le_of_ble_eq_true rfl), (Nat.le_of_ble_eq_true rfl)⟩
  refine r_go1 hH rfl (r_runV (As := [.int (gi x1)]) hM hH cv_X8_136 (mX8_existingProc hLC hM.ns hg0 hr1 qa_3) (hLC.in hg0 (by decide)) (by decide) rfl rfl rfl hl.1 rfl (Nat.le_of_ble_eq_true rfl) ⟨(Nat.le_of_ble_eq_true rfl), (Nat.le_of_ble_eq_true rfl)⟩ ⟨(Nat.le_of_ble_eq_true rfl), (Nat.le_of_ble_eq_true rfl)⟩ dX8_said_2) (fun hp_1 H locs hH => ?_)
  refine lv_iload_n hM.fx.1 hM.fx.2.1 dX8_said_5 rfl (lv_at hl 2 rfl) ?_
  obtain ⟨x_5, ex_5, hf⟩ := gbd hf
  refine r_go1 hH rfl (r_runV (As := [.int (gi x2)]) hM hH cv_X8_219 (mX4_sayingAt hLC hM.ns (hp_1 _ rfl) hr2 ex_5) (hLC.in (hp_1 _ rfl) (by decide)) (by decide) rfl rfl rfl hl.1 rfl (Nat.le_of_ble_eq_true rfl) ⟨(Nat.le_of_ble_eq_true rfl), (Nat.le_of_ble_eq_true rfl)⟩ ⟨(Nat.le_of_ble_eq_true rfl), (Nat.le_of_ble_eq_true rfl)⟩ dX8_said_6) (fun hp_4 H locs hH => ?_)
  obtain rfl := Option.some.inj hf
  exact r_iret hM hH (fun z hz => by cases hz; exact hp_4) ⟨(Nat.le_of_ble_eq_true rfl), (Nat.le_of_ble_eq_true rfl)⟩ dX8_said_9
def fX8_trace (g : Nat → Nat) (a0 : Nat) (x1 : Int) (x2 : Int) (M : gMem) : Option (Nat ⊕ Int) :=
  if x1 < 0 then (some (.inl 3)) else ((fX2_size g (a0 + 1 + 4) M).bind fun x_3 => if x1 < x_3 then (if x2 < 0 then (some (.inl 2)) else (if x2 ≤ 3 then ((fX2_entry g (a0 + 1 + 4) x1 x2 M).bind fun x_8 => some (.inr x_8)) else (some (.inl 2)))) else (some (.inl 3)))
set_option maxHeartbeats 4000000 in
set_option maxRecDepth 100000 in
theorem mX8_trace {w : gW} {n : Nat} {Rm : Nat → Nat → Nat} {g : Nat → Nat} (hLC : gLC g n Rm) {l : Launch} (hl9 : l.stackTraces = false) {a0 : Nat} {x1 : Int} {x2 : Int} {M : gMem} {r : (Nat ⊕ Int)} (hg0 : g a0 = 8) (hr1 : gRI x1) (hr2 : gRI x2) (hf : fX8_trace g a0 x1 x2 M = some r) : gMT w n Rm l yX8_trace cX8_trace 3 (some .int) 6 100 2 12 [.ref (w.1 + a0), .int (gi x1), .int (gi x2)] M (gOcT (fun z => some (.int (gi z))) r) M (∀ z, r = .inr z → (gRI z)) := by
  unfold fX8_trace at hf
  refine gMT.of hl9 (by decide +kernel) ((Nat.le_of_ble_eq_true rfl)) ?_
  intro p e s m below meth c hM hH ls hl
  have hM : gMC w p l s m ([.ref (w.1 + a0), .int (gi x1), .int (gi x2)] : List Value).toArray meth c cX8_trace 3 RX8 (some .int) := hM
  have hl : lv_has ls 3 [(0, .ref (w.1 + a0)), (1, .int (gi x1)), (2, .int (gi x2))] := hl
  refine lv_iload_n hM.fx.1 hM.fx.2.1 dX8_trace_0 rfl (lv_at hl 1 rfl) ?_
  refine r_if_lt (tgt := 18) hM.fx hr1 dX8_trace_1 (by decide) (fun h_1 => ?_) (fun h_1 => ?_)
  · have hf := gpos h_1 hf
    obtain rfl := Option.some.inj hf
    exact r_throw (i := 30) (text := "no such step in the trace") hM hH th_X8_209_213 rfl hl.1 dX8_trace_18 dX8_trace_21 dX8_trace_22 dX8_trace_24 dX8_trace_27 ⟨(Nat.le_of_ble_eq_true rfl), (Nat.le_of_ble_eq_true rfl), (Nat.le_of_ble_eq_true rfl), (Nat.le_of_ble_eq_true rfl)⟩ ⟨(Nat.le_of_ble_eq_true rfl), (Nat.le_of_ble_eq_true rfl)⟩
  · have hf := gneg' h_1 hf
    refine lv_iload_n hM.fx.1 hM.fx.2.1 dX8_trace_4 rfl (lv_at hl 1 rfl) ?_
    refine lv_aload_n hM.fx.1 hM.fx.2.1 dX8_trace_5 rfl (lv_at hl 0 rfl) ?_
    refine r_getR hM.fx hM.kf hH hLC fl_X8_10 hg0 gch_8_0 dX8_trace_6 ?_
    refine r_getR hM.fx hM.kf hH hLC fl_X8_113 (hLC.ch hg0 (by decide) gch_8_0) gch_1_3 dX8_trace_9 ?_
    obtain ⟨x_3, ex_3, hf⟩ := gbd hf
    refine r_go1 hH rfl (r_runV (As := []) hM hH cv_X8_117 (mX2_size hLC hM.ns (hLC.ch (hLC.ch hg0 (by decide) gch_8_0) (by decide) gch_1_3) ex_3) (hLC.in (hLC.ch (hLC.ch hg0 (by decide) gch_8_0) (by decide) gch_1_3) (by decide)) (by decide) rfl rfl rfl hl.1 rfl (Nat.le_of_ble_eq_true rfl) ⟨(Nat.le_of_ble_eq_true rfl), (Nat.le_of_ble_eq_true rfl)⟩ ⟨(Nat.le_of_ble_eq_true rfl), (Nat.le_of_ble_eq_true rfl)⟩ dX8_trace_12) (fun hp_2 H locs hH => ?_)
    refine r_icmp_lt (tgt := 28) hM.fx hr1 hp_2 dX8_trace_15 (by decide) (fun h_4 => ?_) (fun h_4 => ?_)
    · have hf := gpos h_4 hf
      refine lv_iload_n hM.fx.1 hM.fx.2.1 dX8_trace_28 rfl (lv_at hl 2 rfl) ?_
      refine r_if_lt (tgt := 37) hM.fx hr2 dX8_trace_29 (by decide) (fun h_5 => ?_) (fun h_5 => ?_)
      · have hf := gpos h_5 hf
        obtain rfl := Option.some.inj hf
        exact r_throw (i := 31) (text := "no such number of a step") hM hH th_X8_131_135 rfl hl.1 dX8_trace_37 dX8_trace_40 dX8_trace_41 dX8_trace_43 dX8_trace_46 ⟨(Nat.le_of_ble_eq_true rfl), (Nat.le_of_ble_eq_true rfl), (Nat.le_of_ble_eq_true rfl), (Nat.le_of_ble_eq_true rfl)⟩ ⟨(Nat.le_of_ble_eq_true rfl), (Nat.le_of_ble_eq_true rfl)⟩
      · have hf := gneg' h_5 hf
        refine lv_iload_n hM.fx.1 hM.fx.2.1 dX8_trace_32 rfl (lv_at hl 2 rfl) ?_
        refine lv_iconst (v := gi (3)) hM.fx.1 hM.fx.2.1 dX8_trace_33 rfl ?_
        refine r_icmp_le (tgt := 47) hM.fx hr2 (gcR (k := 3) (by decide)) dX8_trace_34 (by decide) (fun h_6 => ?_) (fun h_6 => ?_)
        · have hf := gpos h_6 hf
          refine lv_aload_n hM.fx.1 hM.fx.2.1 dX8_trace_47 rfl (lv_at hl 0 rfl) ?_
          refine r_getR hM.fx hM.kf hH hLC fl_X8_10 hg0 gch_8_0 dX8_trace_48 ?_
          refine r_getR hM.fx hM.kf hH hLC fl_X8_113 (hLC.ch hg0 (by decide) gch_8_0) gch_1_3 dX8_trace_51 ?_
          refine lv_iload_n hM.fx.1 hM.fx.2.1 dX8_trace_54 rfl (lv_at hl 1 rfl) ?_
          refine lv_iload_n hM.fx.1 hM.fx.2.1 dX8_trace_55 rfl (lv_at hl 2 rfl) ?_
          obtain ⟨x_8, ex_8, hf⟩ := gbd hf
          refine r_go1 hH rfl (r_runV (As := [.int (gi x1), .int (gi x2)]) hM hH cv_X8_226 (mX2_entry hLC hM.ns (hLC.ch (hLC.ch hg0 (by decide) gch_8_0) (by decide) gch_1_3) hr1 hr2 ex_8) (hLC.in (hLC.ch (hLC.ch hg0 (by decide) gch_8_0) (by decide) gch_1_3) (by decide)) (by decide) rfl rfl rfl hl.1 rfl (Nat.le_of_ble_eq_true rfl) ⟨(Nat.le_of_ble_eq_true rfl), (Nat.le_of_ble_eq_true rfl)⟩ ⟨(Nat.le_of_ble_eq_true rfl), (Nat.le_of_ble_eq_true rfl)⟩ dX8_trace_56) (fun hp_7 H locs hH => ?_)
          obtain rfl := Option.some.inj hf
          exact r_iret hM hH (fun z hz => by cases hz; exact hp_7) ⟨(Nat.le_of_ble_eq_true rfl), (Nat.le_of_ble_eq_true rfl)⟩ dX8_trace_59
        · have hf := gneg' h_6 hf
          obtain rfl := Option.some.inj hf
          exact r_throw (i := 31) (text := "no such number of a step") hM hH th_X8_131_135 rfl hl.1 dX8_trace_37 dX8_trace_40 dX8_trace_41 dX8_trace_43 dX8_trace_46 ⟨(Nat.le_of_ble_eq_true rfl), (Nat.le_of_ble_eq_true rfl), (Nat.le_of_ble_eq_true rfl), (Nat.le_of_ble_eq_true rfl)⟩ ⟨(Nat.le_of_ble_eq_true rfl), (Nat.le_of_ble_eq_true rfl)⟩
    · have hf := gneg' h_4 hf
      obtain rfl := Option.some.inj hf
      exact r_throw (i := 30) (text := "no such step in the trace") hM hH th_X8_209_213 rfl hl.1 dX8_trace_18 dX8_trace_21 dX8_trace_22 dX8_trace_24 dX8_trace_27 ⟨(Nat.le_of_ble_eq_true rfl), (Nat.le_of_ble_eq_true rfl), (Nat.le_of_ble_eq_true rfl), (Nat.le_of_ble_eq_true rfl)⟩ ⟨(Nat.le_of_ble_eq_true rfl), (Nat.le_of_ble_eq_true rfl)⟩
def fX8_whyStuck (g : Nat → Nat) (a0 : Nat) (x1 : Int) (M : gMem) : Option (Nat ⊕ Int) :=
  gtry (fX8_existingProc g a0 x1 M) (fun e_2 => some (.inl e_2)) fun a_3 => (fX6_waitReason g (a0 + 1) a_3 M).bind fun x_5 => some (.inr x_5)
set_option maxHeartbeats 4000000 in
set_option maxRecDepth 100000 in
theorem mX8_whyStuck {w : gW} {n : Nat} {Rm : Nat → Nat → Nat} {g : Nat → Nat} (hLC : gLC g n Rm) {l : Launch} (hl9 : l.stackTraces = false) {a0 : Nat} {x1 : Int} {M : gMem} {r : (Nat ⊕ Int)} (hg0 : g a0 = 8) (hr1 : gRI x1) (hf : fX8_whyStuck g a0 x1 M = some r) : gMT w n Rm l yX8_whyStuck cX8_whyStuck 2 (some .int) 7 127 1 6 [.ref (w.1 + a0), .int (gi x1)] M (gOcT (fun z => some (.int (gi z))) r) M (∀ z, r = .inr z → (gRI z)) := by
  unfold fX8_whyStuck at hf
  refine gMT.of hl9 (by decide +kernel) ((Nat.le_of_ble_eq_true rfl)) ?_
  intro p e s m below meth c hM hH ls hl
  have hM : gMC w p l s m ([.ref (w.1 + a0), .int (gi x1)] : List Value).toArray meth c cX8_whyStuck 2 RX8 (some .int) := hM
  have hl : lv_has ls 2 [(0, .ref (w.1 + a0)), (1, .int (gi x1))] := hl
  refine lv_aload_n hM.fx.1 hM.fx.2.1 dX8_whyStuck_0 rfl (lv_at hl 0 rfl) ?_
  refine r_getR hM.fx hM.kf hH hLC fl_X8_10 hg0 gch_8_0 dX8_whyStuck_1 ?_
  refine lv_aload_n hM.fx.1 hM.fx.2.1 dX8_whyStuck_4 rfl (lv_at hl 0 rfl) ?_
  refine lv_iload_n hM.fx.1 hM.fx.2.1 dX8_whyStuck_5 rfl (lv_at hl 1 rfl) ?_
  rcases gtry_s hf with ⟨e_2, qe_2, hf⟩ | ⟨a_3, qa_3, hf⟩
  · obtain rfl := Option.some.inj hf
    exact r_goX hM hH rfl (r_runV (As := [.int (gi x1)]) hM hH cv_X8_136 (mX8_existingProc hLC hM.ns hg0 hr1 qe_2) (hLC.in hg0 (by decide)) (by decide) rfl rfl rfl hl.1 rfl (Nat.le_of_ble_eq_true rfl) ⟨(Nat.le_of_ble_eq_true rfl), (Nat.le_of_ble_eq_true rfl)⟩ ⟨(Nat.le_of_ble_eq_true rfl), (Nat.le_of_ble_eq_true rfl)⟩ dX8_whyStuck_6) ⟨(Nat.le_of_ble_eq_true rfl), (Nat.le_of_ble_eq_true rfl)⟩
  refine r_go1 hH rfl (r_runV (As := [.int (gi x1)]) hM hH cv_X8_136 (mX8_existingProc hLC hM.ns hg0 hr1 qa_3) (hLC.in hg0 (by decide)) (by decide) rfl rfl rfl hl.1 rfl (Nat.le_of_ble_eq_true rfl) ⟨(Nat.le_of_ble_eq_true rfl), (Nat.le_of_ble_eq_true rfl)⟩ ⟨(Nat.le_of_ble_eq_true rfl), (Nat.le_of_ble_eq_true rfl)⟩ dX8_whyStuck_6) (fun hp_1 H locs hH => ?_)
  obtain ⟨x_5, ex_5, hf⟩ := gbd hf
  refine r_go1 hH rfl (r_runS (As := [.ref (w.1 + (a0 + 1)), .ref (w.1 + a_3)]) hM hH cs_X8_230 (mX6_waitReason hLC hM.ns (hLC.ch hg0 (by decide) gch_8_0) (hp_1 _ rfl) ex_5) rfl hl.1 rfl (Nat.le_of_ble_eq_true rfl) ⟨(Nat.le_of_ble_eq_true rfl), (Nat.le_of_ble_eq_true rfl)⟩ ⟨(Nat.le_of_ble_eq_true rfl), (Nat.le_of_ble_eq_true rfl)⟩ dX8_whyStuck_9) (fun hp_4 H locs hH => ?_)
  obtain rfl := Option.some.inj hf
  exact r_iret hM hH (fun z hz => by cases hz; exact hp_4) ⟨(Nat.le_of_ble_eq_true rfl), (Nat.le_of_ble_eq_true rfl)⟩ dX8_whyStuck_12
def fX8_stuck (g : Nat → Nat) (a0 : Nat) (M : gMem) : Option Int :=
  (fX6_stuckSet g (a0 + 1) M).bind fun x_2 => some x_2
set_option maxHeartbeats 4000000 in
set_option maxRecDepth 100000 in
theorem mX8_stuck {w : gW} {n : Nat} {Rm : Nat → Nat → Nat} {g : Nat → Nat} (hLC : gLC g n Rm) {l : Launch} (hl9 : l.stackTraces = false) {a0 : Nat} {M : gMem} {r : Int} (hg0 : g a0 = 8) (hf : fX8_stuck g a0 M = some r) : gMT w n Rm l yX8_stuck cX8_stuck 1 (some .int) 5 150 0 0 [.ref (w.1 + a0)] M (.inr (some (.int (gi r)))) M (gRI r) := by
  unfold fX8_stuck at hf
  refine gMT.of hl9 (by decide +kernel) ((Nat.le_of_ble_eq_true rfl)) ?_
  intro p e s m below meth c hM hH ls hl
  have hM : gMC w p l s m ([.ref (w.1 + a0)] : List Value).toArray meth c cX8_stuck 1 RX8 (some .int) := hM
  have hl : lv_has ls 1 [(0, .ref (w.1 + a0))] := hl
  refine lv_aload_n hM.fx.1 hM.fx.2.1 dX8_stuck_0 rfl (lv_at hl 0 rfl) ?_
  refine r_getR hM.fx hM.kf hH hLC fl_X8_10 hg0 gch_8_0 dX8_stuck_1 ?_
  obtain ⟨x_2, ex_2, hf⟩ := gbd hf
  refine r_go1 hH rfl (r_runS (As := [.ref (w.1 + (a0 + 1))]) hM hH cs_X8_234 (mX6_stuckSet hLC hM.ns (hLC.ch hg0 (by decide) gch_8_0) ex_2) rfl hl.1 rfl (Nat.le_of_ble_eq_true rfl) ⟨(Nat.le_of_ble_eq_true rfl), (Nat.le_of_ble_eq_true rfl)⟩ ⟨(Nat.le_of_ble_eq_true rfl), (Nat.le_of_ble_eq_true rfl)⟩ dX8_stuck_4) (fun hp_1 H locs hH => ?_)
  obtain rfl := Option.some.inj hf
  exact r_iret hM hH hp_1 ⟨(Nat.le_of_ble_eq_true rfl), (Nat.le_of_ble_eq_true rfl)⟩ dX8_stuck_7
def fX8_helpers_124 (g : Nat → Nat) (k51 : Nat → Int → Int → Int → Int → Int → gMem → Option (Nat ⊕ Int)) (a0 : Nat) (x1 : Int) (x4 : Int) (x5 : Int) (x6 : Int) (x7 : Int) (M : gMem) : Option (Nat ⊕ Int) :=
  gst (gwi (x7 + 1)) fun x_1 => k51 a0 x1 x4 x5 x6 x_1 M
set_option maxHeartbeats 4000000 in
set_option maxRecDepth 100000 in
theorem wX8_helpers_124 {w : gW} {n : Nat} {Rm : Nat → Nat → Nat} {g : Nat → Nat} (hLC : gLC g n Rm) {p : Program} {l : Launch} {e : Env} {s : State} {m : MethodId} {args : Array Value} {below : List Frame} {meth : Method} {c : Code} (hM : gMC w p l s m args meth c cX8_helpers 9 RX8 (some .int)) (k51 : Nat → Int → Int → Int → Int → Int → gMem → Option (Nat ⊕ Int)) (hk51 : ∀ (a0 : Nat) (x1 : Int) (x4 : Int) (x5 : Int) (x6 : Int) (x7 : Int) (M : gMem) (r : (Nat ⊕ Int)) (hg0 : g a0 = 8) (hr1 : gRI x1) (hr4 : gRI x4) (hr5 : gRI x5) (hr6 : gRI x6) (hr7 : gRI x7) (hf : k51 a0 x1 x4 x5 x6 x7 M = some r) (H : Heap) (locs : List Loc) (ls : Array Slot) (hH : gH w n Rm M s H locs) (hl : lv_has ls 9 [(0, .ref (w.1 + a0)), (1, .int (gi x1)), (4, .int (gi x4)), (5, .int (gi x5)), (6, .int (gi x6)), (7, .int (gi x7))]), W p l e { frames := 7, cells := 1, slots := 6, locals := 127 } s m args below meth c H locs 1 6 (gQ w n Rm below args s 1 6 (gOcT (fun z => some (.int (gi z))) r) M (∀ z, r = .inr z → (gRI z))) (F0 m 51 ls [])) : ∀ (a0 : Nat) (x1 : Int) (x4 : Int) (x5 : Int) (x6 : Int) (x7 : Int) (M : gMem) (r : (Nat ⊕ Int)) (hg0 : g a0 = 8) (hr1 : gRI x1) (hr4 : gRI x4) (hr5 : gRI x5) (hr6 : gRI x6) (hr7 : gRI x7) (hf : fX8_helpers_124 g k51 a0 x1 x4 x5 x6 x7 M = some r) (H : Heap) (locs : List Loc) (ls : Array Slot) (hH : gH w n Rm M s H locs) (hl : lv_has ls 9 [(0, .ref (w.1 + a0)), (1, .int (gi x1)), (4, .int (gi x4)), (5, .int (gi x5)), (6, .int (gi x6)), (7, .int (gi x7))]), W p l e { frames := 7, cells := 1, slots := 6, locals := 127 } s m args below meth c H locs 1 6 (gQ w n Rm below args s 1 6 (gOcT (fun z => some (.int (gi z))) r) M (∀ z, r = .inr z → (gRI z))) (F0 m 124 ls []) := by
  intro a0 x1 x4 x5 x6 x7 M r hg0 hr1 hr4 hr5 hr6 hr7 hf H locs ls hH hl
  unfold fX8_helpers_124 at hf
  obtain ⟨x_1, ex_1, hf⟩ := gst_s hf
  have hx_1 : gRI x_1 := by rw [ex_1]; exact gwi_r _
  refine r_iinc (lv' := [(7, .int (gi x_1)), (0, .ref (w.1 + a0)), (1, .int (gi x1)), (4, .int (gi x4)), (5, .int (gi x5)), (6, .int (gi x6))]) hM.fx dX8_helpers_124 hl (k := 5) rfl (by decide) (by rw [ex_1]; rfl) (fun ls hl => ?_)
  refine lv_goto (tgt := 51) hM.fx.1 hM.fx.2.1 dX8_helpers_127 (by decide) ?_
  exact hk51 _ _ _ _ _ _ _ _ hg0 hr1 hr4 hr5 hr6 hx_1 hf _ _ _ hH (lv_sub hl [1, 2, 3, 4, 5, 0] rfl)
def fX8_helpers_51 (g : Nat → Nat)  : Nat → Nat → Int → Int → Int → Int → Int → gMem → Option (Nat ⊕ Int)
  | 0, _, _, _, _, _, _, _ => none
  | fu + 1, a0, x1, x4, x5, x6, x7, M => if M (a0 + 1) 5 ≤ x7 then (some (.inr x6)) else ((fX0_procAt g (a0 + 1) x7 M).bind fun a_4 => if x7 = x1 then (fX8_helpers_124 g (fX8_helpers_51 g fu) a0 x1 x4 x5 x6 x7 M) else (if a_4 = 0 then (fX8_helpers_124 g (fX8_helpers_51 g fu) a0 x1 x4 x5 x6 x7 M) else (if M a_4 8 = 0 then ((fX4_mayUse g a_4 x5 M).bind fun x_10 => if x_10 = 0 then (fX8_helpers_124 g (fX8_helpers_51 g fu) a0 x1 x4 x5 x6 x7 M) else ((fX4_hasCommand g a_4 x4 x5 M).bind fun x_13 => if x_13 = 0 then (fX8_helpers_124 g (fX8_helpers_51 g fu) a0 x1 x4 x5 x6 x7 M) else (gst (gor x6 (gshl 1 x7)) fun x_15 => fX8_helpers_124 g (fX8_helpers_51 g fu) a0 x1 x4 x5 x_15 x7 M))) else (fX8_helpers_124 g (fX8_helpers_51 g fu) a0 x1 x4 x5 x6 x7 M))))
set_option maxHeartbeats 4000000 in
set_option maxRecDepth 100000 in
theorem wX8_helpers_51 {w : gW} {n : Nat} {Rm : Nat → Nat → Nat} {g : Nat → Nat} (hLC : gLC g n Rm) {p : Program} {l : Launch} {e : Env} {s : State} {m : MethodId} {args : Array Value} {below : List Frame} {meth : Method} {c : Code} (hM : gMC w p l s m args meth c cX8_helpers 9 RX8 (some .int))  : ∀ (fu : Nat), ∀ (a0 : Nat) (x1 : Int) (x4 : Int) (x5 : Int) (x6 : Int) (x7 : Int) (M : gMem) (r : (Nat ⊕ Int)) (hg0 : g a0 = 8) (hr1 : gRI x1) (hr4 : gRI x4) (hr5 : gRI x5) (hr6 : gRI x6) (hr7 : gRI x7) (hf : fX8_helpers_51 g fu a0 x1 x4 x5 x6 x7 M = some r) (H : Heap) (locs : List Loc) (ls : Array Slot) (hH : gH w n Rm M s H locs) (hl : lv_has ls 9 [(0, .ref (w.1 + a0)), (1, .int (gi x1)), (4, .int (gi x4)), (5, .int (gi x5)), (6, .int (gi x6)), (7, .int (gi x7))]), W p l e { frames := 7, cells := 1, slots := 6, locals := 127 } s m args below meth c H locs 1 6 (gQ w n Rm below args s 1 6 (gOcT (fun z => some (.int (gi z))) r) M (∀ z, r = .inr z → (gRI z))) (F0 m 51 ls []) := by
  intro fu
  induction fu with
  | zero =>
    intro a0 x1 x4 x5 x6 x7 M r hg0 hr1 hr4 hr5 hr6 hr7 hf H locs ls hH hl
    exact absurd hf (by simp [fX8_helpers_51])
  | succ fu ih =>
    intro a0 x1 x4 x5 x6 x7 M r hg0 hr1 hr4 hr5 hr6 hr7 hf H locs ls hH hl
    unfold fX8_helpers_51 at hf
    refine lv_iload hM.fx.1 hM.fx.2.1 dX8_helpers_51 (lv_at hl 5 rfl) ?_
    refine lv_aload_n hM.fx.1 hM.fx.2.1 dX8_helpers_53 rfl (lv_at hl 0 rfl) ?_
    refine r_getR hM.fx hM.kf hH hLC fl_X8_10 hg0 gch_8_0 dX8_helpers_54 ?_
    refine r_getI hM.fx hM.kf hH fl_X8_91 (hLC.in (hLC.ch hg0 (by decide) gch_8_0) (by decide)) dX8_helpers_57 ?_
    have hr_1 := hH.2.2.i (hLC.in (hLC.ch hg0 (by decide) gch_8_0) (by decide)).2.2 (by decide : glg 1 5 = false)
    refine r_icmp_ge (tgt := 130) hM.fx hr7 hr_1 dX8_helpers_60 (by decide) (fun h_2 => ?_) (fun h_2 => ?_)
    · have hf := gpos h_2 hf
      refine lv_iload hM.fx.1 hM.fx.2.1 dX8_helpers_130 (lv_at hl 4 rfl) ?_
      obtain rfl := Option.some.inj hf
      exact r_iret hM hH (fun z hz => by cases hz; exact hr6) ⟨(Nat.le_of_ble_eq_true rfl), (Nat.le_of_ble_eq_true rfl)⟩ dX8_helpers_132
    · have hf := gneg' h_2 hf
      refine lv_aload_n hM.fx.1 hM.fx.2.1 dX8_helpers_63 rfl (lv_at hl 0 rfl) ?_
      refine r_getR hM.fx hM.kf hH hLC fl_X8_10 hg0 gch_8_0 dX8_helpers_64 ?_
      refine lv_iload hM.fx.1 hM.fx.2.1 dX8_helpers_67 (lv_at hl 5 rfl) ?_
      obtain ⟨a_4, ea_4, hf⟩ := gbd hf
      refine r_go1 hH rfl (r_runV (As := [.int (gi x7)]) hM hH cv_X8_238 (mX0_procAt hLC hM.ns (hLC.ch hg0 (by decide) gch_8_0) hr7 ea_4) (hLC.in (hLC.ch hg0 (by decide) gch_8_0) (by decide)) (by decide) rfl rfl rfl hl.1 rfl (Nat.le_of_ble_eq_true rfl) ⟨(Nat.le_of_ble_eq_true rfl), (Nat.le_of_ble_eq_true rfl)⟩ ⟨(Nat.le_of_ble_eq_true rfl), (Nat.le_of_ble_eq_true rfl)⟩ dX8_helpers_69) (fun hp_3 H locs hH => ?_)
      refine r_astoreV (lv' := [(8, gvR w a_4), (0, .ref (w.1 + a0)), (1, .int (gi x1)), (4, .int (gi x4)), (5, .int (gi x5)), (6, .int (gi x6)), (7, .int (gi x7))]) hM.fx dX8_helpers_72 hl (by decide) rfl (fun ls hl => ?_)
      refine lv_iload hM.fx.1 hM.fx.2.1 dX8_helpers_74 (lv_at hl 6 rfl) ?_
      refine lv_iload_n hM.fx.1 hM.fx.2.1 dX8_helpers_76 rfl (lv_at hl 2 rfl) ?_
      refine r_icmp_eq (tgt := 124) hM.fx hr7 hr1 dX8_helpers_77 (by decide) (fun h_5 => ?_) (fun h_5 => ?_)
      · have hf := gpos h_5 hf
        exact wX8_helpers_124 hLC hM (fX8_helpers_51 g fu) ih  _ _ _ _ _ _ _ _ hg0 hr1 hr4 hr5 hr6 hr7 hf _ _ _ hH (lv_sub hl [1, 2, 3, 4, 5, 6] rfl)
      · have hf := gneg' h_5 hf
        refine r_aloadV hM.fx dX8_helpers_80 (lv_at hl 0 rfl) ?_
        refine r_ifnull (tgt := 124) hM.fx dX8_helpers_82 (by decide) (fun h_6 => ?_) (fun h_6 => ?_)
        · have hf := gpos h_6 hf
          exact wX8_helpers_124 hLC hM (fX8_helpers_51 g fu) ih  _ _ _ _ _ _ _ _ hg0 hr1 hr4 hr5 hr6 hr7 hf _ _ _ hH (lv_sub hl [1, 2, 3, 4, 5, 6] rfl)
        · have hf := gneg' h_6 hf
          rw [gvR_nn h_6] at hl
          refine lv_aload hM.fx.1 hM.fx.2.1 dX8_helpers_85 (lv_at hl 0 rfl) ?_
          refine r_getI hM.fx hM.kf hH fl_X8_140 (hLC.in (hp_3 h_6) (by decide)) dX8_helpers_87 ?_
          have hr_7 := hH.2.2.i (hLC.in (hp_3 h_6) (by decide)).2.2 (by decide : glg 5 8 = false)
          refine r_if_ne (tgt := 124) hM.fx hr_7 dX8_helpers_90 (by decide) (fun h_8 => ?_) (fun h_8 => ?_)
          · have hf := gneg' h_8 hf
            exact wX8_helpers_124 hLC hM (fX8_helpers_51 g fu) ih  _ _ _ _ _ _ _ _ hg0 hr1 hr4 hr5 hr6 hr7 hf _ _ _ hH (lv_sub hl [1, 2, 3, 4, 5, 6] rfl)
          · have hf := gpos h_8 hf
            refine lv_aload hM.fx.1 hM.fx.2.1 dX8_helpers_93 (lv_at hl 0 rfl) ?_
            refine lv_iload hM.fx.1 hM.fx.2.1 dX8_helpers_95 (lv_at hl 4 rfl) ?_
            obtain ⟨x_10, ex_10, hf⟩ := gbd hf
            refine r_go1 hH rfl (r_runV (As := [.int (gi x5)]) hM hH cv_X8_241 (mX4_mayUse hLC hM.ns (hp_3 h_6) hr5 ex_10) (hLC.in (hp_3 h_6) (by decide)) (by decide) rfl rfl rfl hl.1 rfl (Nat.le_of_ble_eq_true rfl) ⟨(Nat.le_of_ble_eq_true rfl), (Nat.le_of_ble_eq_true rfl)⟩ ⟨(Nat.le_of_ble_eq_true rfl), (Nat.le_of_ble_eq_true rfl)⟩ dX8_helpers_97) (fun hp_9 H locs hH => ?_)
            refine r_if_eq (tgt := 124) hM.fx (gz_r hp_9) dX8_helpers_100 (by decide) (fun h_11 => ?_) (fun h_11 => ?_)
            · have hf := gpos h_11 hf
              exact wX8_helpers_124 hLC hM (fX8_helpers_51 g fu) ih  _ _ _ _ _ _ _ _ hg0 hr1 hr4 hr5 hr6 hr7 hf _ _ _ hH (lv_sub hl [1, 2, 3, 4, 5, 6] rfl)
            · have hf := gneg' h_11 hf
              refine lv_aload hM.fx.1 hM.fx.2.1 dX8_helpers_103 (lv_at hl 0 rfl) ?_
              refine lv_iload hM.fx.1 hM.fx.2.1 dX8_helpers_105 (lv_at hl 3 rfl) ?_
              refine lv_iload hM.fx.1 hM.fx.2.1 dX8_helpers_107 (lv_at hl 4 rfl) ?_
              obtain ⟨x_13, ex_13, hf⟩ := gbd hf
              refine r_go1 hH rfl (r_runV (As := [.int (gi x4), .int (gi x5)]) hM hH cv_X8_245 (mX4_hasCommand hLC hM.ns (hp_3 h_6) hr4 hr5 ex_13) (hLC.in (hp_3 h_6) (by decide)) (by decide) rfl rfl rfl hl.1 rfl (Nat.le_of_ble_eq_true rfl) ⟨(Nat.le_of_ble_eq_true rfl), (Nat.le_of_ble_eq_true rfl)⟩ ⟨(Nat.le_of_ble_eq_true rfl), (Nat.le_of_ble_eq_true rfl)⟩ dX8_helpers_109) (fun hp_12 H locs hH => ?_)
              refine r_if_eq (tgt := 124) hM.fx (gz_r hp_12) dX8_helpers_112 (by decide) (fun h_14 => ?_) (fun h_14 => ?_)
              · have hf := gpos h_14 hf
                exact wX8_helpers_124 hLC hM (fX8_helpers_51 g fu) ih  _ _ _ _ _ _ _ _ hg0 hr1 hr4 hr5 hr6 hr7 hf _ _ _ hH (lv_sub hl [1, 2, 3, 4, 5, 6] rfl)
              · have hf := gneg' h_14 hf
                refine lv_iload hM.fx.1 hM.fx.2.1 dX8_helpers_115 (lv_at hl 5 rfl) ?_
                refine lv_iconst (v := gi (1)) hM.fx.1 hM.fx.2.1 dX8_helpers_117 rfl ?_
                refine lv_iload hM.fx.1 hM.fx.2.1 dX8_helpers_118 (lv_at hl 6 rfl) ?_
                refine r_ishl hM.fx dX8_helpers_120 ?_
                refine r_ior hM.fx dX8_helpers_121 ?_
                obtain ⟨x_15, ex_15, hf⟩ := gst_s hf
                refine W.eq (g2 := F0 m _ ls (.int (gi x_15) :: _)) (by rw [ex_15]) ?_
                have hx_15 : gRI x_15 := by rw [ex_15]; exact (gi_r _)
                refine lv_istore (lv' := [(6, .int (gi x_15)), (8, .ref (w.1 + a_4)), (0, .ref (w.1 + a0)), (1, .int (gi x1)), (4, .int (gi x4)), (5, .int (gi x5)), (7, .int (gi x7))]) hM.fx.1 hM.fx.2.1 dX8_helpers_122 hl (by decide) rfl (fun ls hl => ?_)
                exact wX8_helpers_124 hLC hM (fX8_helpers_51 g fu) ih  _ _ _ _ _ _ _ _ hg0 hr1 hr4 hr5 hx_15 hr7 hf _ _ _ hH (lv_sub hl [2, 3, 4, 5, 0, 6] rfl)
def fX8_helpers_33 (g : Nat → Nat)  (a0 : Nat) (x1 : Int) (a2 : Nat) (xs0 : Int) (M : gMem) : Option (Nat ⊕ Int) :=
  (fX4_operandAt g a2 (M a2 7) M).bind fun x_3 => fX8_helpers_51 g gF a0 x1 xs0 x_3 0 0 M
set_option maxHeartbeats 4000000 in
set_option maxRecDepth 100000 in
theorem wX8_helpers_33 {w : gW} {n : Nat} {Rm : Nat → Nat → Nat} {g : Nat → Nat} (hLC : gLC g n Rm) {p : Program} {l : Launch} {e : Env} {s : State} {m : MethodId} {args : Array Value} {below : List Frame} {meth : Method} {c : Code} (hM : gMC w p l s m args meth c cX8_helpers 9 RX8 (some .int))  : ∀ (a0 : Nat) (x1 : Int) (a2 : Nat) (xs0 : Int) (M : gMem) (r : (Nat ⊕ Int)) (hg0 : g a0 = 8) (hr1 : gRI x1) (hg2 : g a2 = 5) (hrs0 : gRI xs0) (hf : fX8_helpers_33 g a0 x1 a2 xs0 M = some r) (H : Heap) (locs : List Loc) (ls : Array Slot) (hH : gH w n Rm M s H locs) (hl : lv_has ls 9 [(0, .ref (w.1 + a0)), (1, .int (gi x1)), (2, .ref (w.1 + a2))]), W p l e { frames := 7, cells := 1, slots := 6, locals := 127 } s m args below meth c H locs 1 6 (gQ w n Rm below args s 1 6 (gOcT (fun z => some (.int (gi z))) r) M (∀ z, r = .inr z → (gRI z))) (F0 m 33 ls [.int (gi xs0)]) := by
  intro a0 x1 a2 xs0 M r hg0 hr1 hg2 hrs0 hf H locs ls hH hl
  unfold fX8_helpers_33 at hf
  refine lv_istore (lv' := [(4, .int (gi xs0)), (0, .ref (w.1 + a0)), (1, .int (gi x1)), (2, .ref (w.1 + a2))]) hM.fx.1 hM.fx.2.1 dX8_helpers_33 hl (by decide) rfl (fun ls hl => ?_)
  refine lv_aload_n hM.fx.1 hM.fx.2.1 dX8_helpers_35 rfl (lv_at hl 3 rfl) ?_
  refine lv_aload_n hM.fx.1 hM.fx.2.1 dX8_helpers_36 rfl (lv_at hl 3 rfl) ?_
  refine r_getI hM.fx hM.kf hH fl_X8_148 (hLC.in hg2 (by decide)) dX8_helpers_37 ?_
  have hr_1 := hH.2.2.i (hLC.in hg2 (by decide)).2.2 (by decide : glg 5 7 = false)
  obtain ⟨x_3, ex_3, hf⟩ := gbd hf
  refine r_go1 hH rfl (r_runV (As := [.int (gi (M a2 7))]) hM hH cv_X8_214 (mX4_operandAt hLC hM.ns hg2 hr_1 ex_3) (hLC.in hg2 (by decide)) (by decide) rfl rfl rfl hl.1 rfl (Nat.le_of_ble_eq_true rfl) ⟨(Nat.le_of_ble_eq_true rfl), (Nat.le_of_ble_eq_true rfl)⟩ ⟨(Nat.le_of_ble_eq_true rfl), (Nat.le_of_ble_eq_true rfl)⟩ dX8_helpers_40) (fun hp_2 H locs hH => ?_)
  refine lv_istore (lv' := [(5, .int (gi x_3)), (4, .int (gi xs0)), (0, .ref (w.1 + a0)), (1, .int (gi x1)), (2, .ref (w.1 + a2))]) hM.fx.1 hM.fx.2.1 dX8_helpers_43 hl (by decide) rfl (fun ls hl => ?_)
  refine lv_iconst (v := gi (0)) hM.fx.1 hM.fx.2.1 dX8_helpers_45 rfl ?_
  refine lv_istore (lv' := [(6, .int (gi 0)), (5, .int (gi x_3)), (4, .int (gi xs0)), (0, .ref (w.1 + a0)), (1, .int (gi x1)), (2, .ref (w.1 + a2))]) hM.fx.1 hM.fx.2.1 dX8_helpers_46 hl (by decide) rfl (fun ls hl => ?_)
  refine lv_iconst (v := gi (0)) hM.fx.1 hM.fx.2.1 dX8_helpers_48 rfl ?_
  refine lv_istore (lv' := [(7, .int (gi 0)), (6, .int (gi 0)), (5, .int (gi x_3)), (4, .int (gi xs0)), (0, .ref (w.1 + a0)), (1, .int (gi x1)), (2, .ref (w.1 + a2))]) hM.fx.1 hM.fx.2.1 dX8_helpers_49 hl (by decide) rfl (fun ls hl => ?_)
  exact wX8_helpers_51 hLC hM  gF _ _ _ _ _ _ _ _ hg0 hr1 hrs0 hp_2 (gcR (k := 0) (by decide)) (gcR (k := 0) (by decide)) hf _ _ _ hH (lv_sub hl [4, 5, 3, 2, 1, 0] rfl)
def fX8_helpers (g : Nat → Nat) (a0 : Nat) (x1 : Int) (M : gMem) : Option (Nat ⊕ Int) :=
  gtry (fX8_existingProc g a0 x1 M) (fun e_2 => some (.inl e_2)) fun a_3 => (fX6_waitReason g (a0 + 1) a_3 M).bind fun x_5 => if x_5 = 0 then (some (.inr 0)) else (if x_5 = 2 then (fX8_helpers_33 g a0 x1 a_3 8 M) else (fX8_helpers_33 g a0 x1 a_3 9 M))
set_option maxHeartbeats 4000000 in
set_option maxRecDepth 100000 in
theorem mX8_helpers {w : gW} {n : Nat} {Rm : Nat → Nat → Nat} {g : Nat → Nat} (hLC : gLC g n Rm) {l : Launch} (hl9 : l.stackTraces = false) {a0 : Nat} {x1 : Int} {M : gMem} {r : (Nat ⊕ Int)} (hg0 : g a0 = 8) (hr1 : gRI x1) (hf : fX8_helpers g a0 x1 M = some r) : gMT w n Rm l yX8_helpers cX8_helpers 9 (some .int) 7 127 1 6 [.ref (w.1 + a0), .int (gi x1)] M (gOcT (fun z => some (.int (gi z))) r) M (∀ z, r = .inr z → (gRI z)) := by
  unfold fX8_helpers at hf
  refine gMT.of hl9 (by decide +kernel) ((Nat.le_of_ble_eq_true rfl)) ?_
  intro p e s m below meth c hM hH ls hl
  have hM : gMC w p l s m ([.ref (w.1 + a0), .int (gi x1)] : List Value).toArray meth c cX8_helpers 9 RX8 (some .int) := hM
  have hl : lv_has ls 9 [(0, .ref (w.1 + a0)), (1, .int (gi x1))] := hl
  refine lv_aload_n hM.fx.1 hM.fx.2.1 dX8_helpers_0 rfl (lv_at hl 0 rfl) ?_
  refine lv_iload_n hM.fx.1 hM.fx.2.1 dX8_helpers_1 rfl (lv_at hl 1 rfl) ?_
  rcases gtry_s hf with ⟨e_2, qe_2, hf⟩ | ⟨a_3, qa_3, hf⟩
  · obtain rfl := Option.some.inj hf
    exact r_goX hM hH rfl (r_runV (As := [.int (gi x1)]) hM hH cv_X8_136 (mX8_existingProc hLC hM.ns hg0 hr1 qe_2) (hLC.in hg0 (by decide)) (by decide) rfl rfl rfl hl.1 rfl (Nat.le_of_ble_eq_true rfl) ⟨(Nat.le_of_ble_eq_true rfl), (Nat.le_of_ble_eq_true rfl)⟩ ⟨(Nat.le_of_ble_eq_true rfl), (Nat.le_of_ble_eq_true rfl)⟩ dX8_helpers_2) ⟨(Nat.le_of_ble_eq_true rfl), (Nat.le_of_ble_eq_true rfl)⟩
  refine r_go1 hH rfl (r_runV (As := [.int (gi x1)]) hM hH cv_X8_136 (mX8_existingProc hLC hM.ns hg0 hr1 qa_3) (hLC.in hg0 (by decide)) (by decide) rfl rfl rfl hl.1 rfl (Nat.le_of_ble_eq_true rfl) ⟨(Nat.le_of_ble_eq_true rfl), (Nat.le_of_ble_eq_true rfl)⟩ ⟨(Nat.le_of_ble_eq_true rfl), (Nat.le_of_ble_eq_true rfl)⟩ dX8_helpers_2) (fun hp_1 H locs hH => ?_)
  refine lv_astore_n (lv' := [(2, .ref (w.1 + a_3)), (0, .ref (w.1 + a0)), (1, .int (gi x1))]) hM.fx.1 hM.fx.2.1 dX8_helpers_5 rfl hl (by decide) rfl (fun ls hl => ?_)
  refine lv_aload_n hM.fx.1 hM.fx.2.1 dX8_helpers_6 rfl (lv_at hl 1 rfl) ?_
  refine r_getR hM.fx hM.kf hH hLC fl_X8_10 hg0 gch_8_0 dX8_helpers_7 ?_
  refine lv_aload_n hM.fx.1 hM.fx.2.1 dX8_helpers_10 rfl (lv_at hl 0 rfl) ?_
  obtain ⟨x_5, ex_5, hf⟩ := gbd hf
  refine r_go1 hH rfl (r_runS (As := [.ref (w.1 + (a0 + 1)), .ref (w.1 + a_3)]) hM hH cs_X8_230 (mX6_waitReason hLC hM.ns (hLC.ch hg0 (by decide) gch_8_0) (hp_1 _ rfl) ex_5) rfl hl.1 rfl (Nat.le_of_ble_eq_true rfl) ⟨(Nat.le_of_ble_eq_true rfl), (Nat.le_of_ble_eq_true rfl)⟩ ⟨(Nat.le_of_ble_eq_true rfl), (Nat.le_of_ble_eq_true rfl)⟩ dX8_helpers_11) (fun hp_4 H locs hH => ?_)
  refine lv_istore_n (lv' := [(3, .int (gi x_5)), (2, .ref (w.1 + a_3)), (0, .ref (w.1 + a0)), (1, .int (gi x1))]) hM.fx.1 hM.fx.2.1 dX8_helpers_14 rfl hl (by decide) rfl (fun ls hl => ?_)
  refine lv_iload_n hM.fx.1 hM.fx.2.1 dX8_helpers_15 rfl (lv_at hl 0 rfl) ?_
  refine r_if_ne (tgt := 21) hM.fx hp_4 dX8_helpers_16 (by decide) (fun h_6 => ?_) (fun h_6 => ?_)
  · have hf := gneg' h_6 hf
    refine lv_iload_n hM.fx.1 hM.fx.2.1 dX8_helpers_21 rfl (lv_at hl 0 rfl) ?_
    refine lv_iconst (v := gi (2)) hM.fx.1 hM.fx.2.1 dX8_helpers_22 rfl ?_
    refine r_icmp_ne (tgt := 31) hM.fx hp_4 (gcR (k := 2) (by decide)) dX8_helpers_23 (by decide) (fun h_7 => ?_) (fun h_7 => ?_)
    · have hf := gneg' h_7 hf
      refine lv_bipush (v := gi (9)) hM.fx.1 hM.fx.2.1 dX8_helpers_31 (by decide) ?_
      exact wX8_helpers_33 hLC hM   _ _ _ _ _ _ hg0 hr1 (hp_1 _ rfl) (gcR (k := 9) (by decide)) hf _ _ _ hH (lv_sub hl [2, 3, 1] rfl)
    · have hf := gpos h_7 hf
      refine lv_bipush (v := gi (8)) hM.fx.1 hM.fx.2.1 dX8_helpers_26 (by decide) ?_
      refine lv_goto (tgt := 33) hM.fx.1 hM.fx.2.1 dX8_helpers_28 (by decide) ?_
      exact wX8_helpers_33 hLC hM   _ _ _ _ _ _ hg0 hr1 (hp_1 _ rfl) (gcR (k := 8) (by decide)) hf _ _ _ hH (lv_sub hl [2, 3, 1] rfl)
  · have hf := gpos h_6 hf
    refine lv_iconst (v := gi (0)) hM.fx.1 hM.fx.2.1 dX8_helpers_19 rfl ?_
    obtain rfl := Option.some.inj hf
    exact r_iret hM hH (fun z hz => by cases hz; exact (gcR (k := 0) (by decide))) ⟨(Nat.le_of_ble_eq_true rfl), (Nat.le_of_ble_eq_true rfl)⟩ dX8_helpers_20
def fX8_unfair (g : Nat → Nat) (a0 : Nat) (M : gMem) : Option Int :=
  (fX0_stepSpread g (a0 + 1) M).bind fun x_2 => some x_2
set_option maxHeartbeats 4000000 in
set_option maxRecDepth 100000 in
theorem mX8_unfair {w : gW} {n : Nat} {Rm : Nat → Nat → Nat} {g : Nat → Nat} (hLC : gLC g n Rm) {l : Launch} (hl9 : l.stackTraces = false) {a0 : Nat} {M : gMem} {r : Int} (hg0 : g a0 = 8) (hf : fX8_unfair g a0 M = some r) : gMT w n Rm l yX8_unfair cX8_unfair 1 (some .int) 2 83 0 0 [.ref (w.1 + a0)] M (.inr (some (.int (gi r)))) M (gRI r) := by
  unfold fX8_unfair at hf
  refine gMT.of hl9 (by decide +kernel) ((Nat.le_of_ble_eq_true rfl)) ?_
  intro p e s m below meth c hM hH ls hl
  have hM : gMC w p l s m ([.ref (w.1 + a0)] : List Value).toArray meth c cX8_unfair 1 RX8 (some .int) := hM
  have hl : lv_has ls 1 [(0, .ref (w.1 + a0))] := hl
  refine lv_aload_n hM.fx.1 hM.fx.2.1 dX8_unfair_0 rfl (lv_at hl 0 rfl) ?_
  refine r_getR hM.fx hM.kf hH hLC fl_X8_10 hg0 gch_8_0 dX8_unfair_1 ?_
  obtain ⟨x_2, ex_2, hf⟩ := gbd hf
  refine r_go1 hH rfl (r_runV (As := []) hM hH cv_X8_249 (mX0_stepSpread hLC hM.ns (hLC.ch hg0 (by decide) gch_8_0) ex_2) (hLC.in (hLC.ch hg0 (by decide) gch_8_0) (by decide)) (by decide) rfl rfl rfl hl.1 rfl (Nat.le_of_ble_eq_true rfl) ⟨(Nat.le_of_ble_eq_true rfl), (Nat.le_of_ble_eq_true rfl)⟩ ⟨(Nat.le_of_ble_eq_true rfl), (Nat.le_of_ble_eq_true rfl)⟩ dX8_unfair_4) (fun hp_1 H locs hH => ?_)
  obtain rfl := Option.some.inj hf
  exact r_iret hM hH hp_1 ⟨(Nat.le_of_ble_eq_true rfl), (Nat.le_of_ble_eq_true rfl)⟩ dX8_unfair_7
def fX8_hungriest_62 (g : Nat → Nat) (k6 : Nat → Int → Int → Int → gMem → Option Int) (a0 : Nat) (x1 : Int) (x2 : Int) (x3 : Int) (M : gMem) : Option Int :=
  gst (gwi (x3 + 1)) fun x_1 => k6 a0 x1 x2 x_1 M
set_option maxHeartbeats 4000000 in
set_option maxRecDepth 100000 in
theorem wX8_hungriest_62 {w : gW} {n : Nat} {Rm : Nat → Nat → Nat} {g : Nat → Nat} (hLC : gLC g n Rm) {p : Program} {l : Launch} {e : Env} {s : State} {m : MethodId} {args : Array Value} {below : List Frame} {meth : Method} {c : Code} (hM : gMC w p l s m args meth c cX8_hungriest 5 RX8 (some .int)) (k6 : Nat → Int → Int → Int → gMem → Option Int) (hk6 : ∀ (a0 : Nat) (x1 : Int) (x2 : Int) (x3 : Int) (M : gMem) (r : Int) (hg0 : g a0 = 8) (hr1 : gRI x1) (hr2 : gRI x2) (hr3 : gRI x3) (hf : k6 a0 x1 x2 x3 M = some r) (H : Heap) (locs : List Loc) (ls : Array Slot) (hH : gH w n Rm M s H locs) (hl : lv_has ls 5 [(0, .ref (w.1 + a0)), (1, .int (gi x1)), (2, .int (gi x2)), (3, .int (gi x3))]), W p l e { frames := 2, cells := 0, slots := 0, locals := 81 } s m args below meth c H locs 0 0 (gQ w n Rm below args s 0 0 (.inr (some (.int (gi r)))) M (gRI r)) (F0 m 6 ls [])) : ∀ (a0 : Nat) (x1 : Int) (x2 : Int) (x3 : Int) (M : gMem) (r : Int) (hg0 : g a0 = 8) (hr1 : gRI x1) (hr2 : gRI x2) (hr3 : gRI x3) (hf : fX8_hungriest_62 g k6 a0 x1 x2 x3 M = some r) (H : Heap) (locs : List Loc) (ls : Array Slot) (hH : gH w n Rm M s H locs) (hl : lv_has ls 5 [(0, .ref (w.1 + a0)), (1, .int (gi x1)), (2, .int (gi x2)), (3, .int (gi x3))]), W p l e { frames := 2, cells := 0, slots := 0, locals := 81 } s m args below meth c H locs 0 0 (gQ w n Rm below args s 0 0 (.inr (some (.int (gi r)))) M (gRI r)) (F0 m 62 ls []) := by
  intro a0 x1 x2 x3 M r hg0 hr1 hr2 hr3 hf H locs ls hH hl
  unfold fX8_hungriest_62 at hf
  obtain ⟨x_1, ex_1, hf⟩ := gst_s hf
  have hx_1 : gRI x_1 := by rw [ex_1]; exact gwi_r _
  refine r_iinc (lv' := [(3, .int (gi x_1)), (0, .ref (w.1 + a0)), (1, .int (gi x1)), (2, .int (gi x2))]) hM.fx dX8_hungriest_62 hl (k := 3) rfl (by decide) (by rw [ex_1]; rfl) (fun ls hl => ?_)
  refine lv_goto (tgt := 6) hM.fx.1 hM.fx.2.1 dX8_hungriest_65 (by decide) ?_
  exact hk6 _ _ _ _ _ _ hg0 hr1 hr2 hx_1 hf _ _ _ hH (lv_sub hl [1, 2, 3, 0] rfl)
def fX8_hungriest_54 (g : Nat → Nat) (k6 : Nat → Int → Int → Int → gMem → Option Int) (a0 : Nat) (x3 : Int) (a4 : Nat) (M : gMem) : Option Int :=
  gst (M a4 12) fun x_2 => fX8_hungriest_62 g k6 a0 x3 x_2 x3 M
set_option maxHeartbeats 4000000 in
set_option maxRecDepth 100000 in
theorem wX8_hungriest_54 {w : gW} {n : Nat} {Rm : Nat → Nat → Nat} {g : Nat → Nat} (hLC : gLC g n Rm) {p : Program} {l : Launch} {e : Env} {s : State} {m : MethodId} {args : Array Value} {below : List Frame} {meth : Method} {c : Code} (hM : gMC w p l s m args meth c cX8_hungriest 5 RX8 (some .int)) (k6 : Nat → Int → Int → Int → gMem → Option Int) (hk6 : ∀ (a0 : Nat) (x1 : Int) (x2 : Int) (x3 : Int) (M : gMem) (r : Int) (hg0 : g a0 = 8) (hr1 : gRI x1) (hr2 : gRI x2) (hr3 : gRI x3) (hf : k6 a0 x1 x2 x3 M = some r) (H : Heap) (locs : List Loc) (ls : Array Slot) (hH : gH w n Rm M s H locs) (hl : lv_has ls 5 [(0, .ref (w.1 + a0)), (1, .int (gi x1)), (2, .int (gi x2)), (3, .int (gi x3))]), W p l e { frames := 2, cells := 0, slots := 0, locals := 81 } s m args below meth c H locs 0 0 (gQ w n Rm below args s 0 0 (.inr (some (.int (gi r)))) M (gRI r)) (F0 m 6 ls [])) : ∀ (a0 : Nat) (x3 : Int) (a4 : Nat) (M : gMem) (r : Int) (hg0 : g a0 = 8) (hr3 : gRI x3) (hg4 : g a4 = 5) (hf : fX8_hungriest_54 g k6 a0 x3 a4 M = some r) (H : Heap) (locs : List Loc) (ls : Array Slot) (hH : gH w n Rm M s H locs) (hl : lv_has ls 5 [(0, .ref (w.1 + a0)), (3, .int (gi x3)), (4, .ref (w.1 + a4))]), W p l e { frames := 2, cells := 0, slots := 0, locals := 81 } s m args below meth c H locs 0 0 (gQ w n Rm below args s 0 0 (.inr (some (.int (gi r)))) M (gRI r)) (F0 m 54 ls []) := by
  intro a0 x3 a4 M r hg0 hr3 hg4 hf H locs ls hH hl
  unfold fX8_hungriest_54 at hf
  refine lv_iload_n hM.fx.1 hM.fx.2.1 dX8_hungriest_54 rfl (lv_at hl 1 rfl) ?_
  refine lv_istore_n (lv' := [(1, .int (gi x3)), (0, .ref (w.1 + a0)), (3, .int (gi x3)), (4, .ref (w.1 + a4))]) hM.fx.1 hM.fx.2.1 dX8_hungriest_55 rfl hl (by decide) rfl (fun ls hl => ?_)
  refine lv_aload hM.fx.1 hM.fx.2.1 dX8_hungriest_56 (lv_at hl 3 rfl) ?_
  refine r_getI hM.fx hM.kf hH fl_X8_164 (hLC.in hg4 (by decide)) dX8_hungriest_58 ?_
  have hr_1 := hH.2.2.i (hLC.in hg4 (by decide)).2.2 (by decide : glg 5 12 = false)
  obtain ⟨x_2, ex_2, hf⟩ := gst_s hf
  refine W.eq (g2 := F0 m _ ls (.int (gi x_2) :: _)) (by rw [ex_2]) ?_
  have hx_2 : gRI x_2 := by rw [ex_2]; exact hr_1
  refine lv_istore_n (lv' := [(2, .int (gi x_2)), (1, .int (gi x3)), (0, .ref (w.1 + a0)), (3, .int (gi x3)), (4, .ref (w.1 + a4))]) hM.fx.1 hM.fx.2.1 dX8_hungriest_61 rfl hl (by decide) rfl (fun ls hl => ?_)
  exact wX8_hungriest_62 hLC hM k6 hk6  _ _ _ _ _ _ hg0 hr3 hx_2 hr3 hf _ _ _ hH (lv_sub hl [2, 1, 0, 3] rfl)
def fX8_hungriest_6 (g : Nat → Nat)  : Nat → Nat → Int → Int → Int → gMem → Option Int
  | 0, _, _, _, _, _ => none
  | fu + 1, a0, x1, x2, x3, M => if M (a0 + 1) 5 ≤ x3 then (some x1) else ((fX0_procAt g (a0 + 1) x3 M).bind fun a_4 => if a_4 = 0 then (fX8_hungriest_62 g (fX8_hungriest_6 g fu) a0 x1 x2 x3 M) else (if M a_4 8 = 0 then (if x1 = (-1) then (fX8_hungriest_54 g (fX8_hungriest_6 g fu) a0 x3 a_4 M) else (if x2 ≤ M a_4 12 then (fX8_hungriest_62 g (fX8_hungriest_6 g fu) a0 x1 x2 x3 M) else (fX8_hungriest_54 g (fX8_hungriest_6 g fu) a0 x3 a_4 M))) else (fX8_hungriest_62 g (fX8_hungriest_6 g fu) a0 x1 x2 x3 M)))
set_option maxHeartbeats 4000000 in
set_option maxRecDepth 100000 in
theorem wX8_hungriest_6 {w : gW} {n : Nat} {Rm : Nat → Nat → Nat} {g : Nat → Nat} (hLC : gLC g n Rm) {p : Program} {l : Launch} {e : Env} {s : State} {m : MethodId} {args : Array Value} {below : List Frame} {meth : Method} {c : Code} (hM : gMC w p l s m args meth c cX8_hungriest 5 RX8 (some .int))  : ∀ (fu : Nat), ∀ (a0 : Nat) (x1 : Int) (x2 : Int) (x3 : Int) (M : gMem) (r : Int) (hg0 : g a0 = 8) (hr1 : gRI x1) (hr2 : gRI x2) (hr3 : gRI x3) (hf : fX8_hungriest_6 g fu a0 x1 x2 x3 M = some r) (H : Heap) (locs : List Loc) (ls : Array Slot) (hH : gH w n Rm M s H locs) (hl : lv_has ls 5 [(0, .ref (w.1 + a0)), (1, .int (gi x1)), (2, .int (gi x2)), (3, .int (gi x3))]), W p l e { frames := 2, cells := 0, slots := 0, locals := 81 } s m args below meth c H locs 0 0 (gQ w n Rm below args s 0 0 (.inr (some (.int (gi r)))) M (gRI r)) (F0 m 6 ls []) := by
  intro fu
  induction fu with
  | zero =>
    intro a0 x1 x2 x3 M r hg0 hr1 hr2 hr3 hf H locs ls hH hl
    exact absurd hf (by simp [fX8_hungriest_6])
  | succ fu ih =>
    intro a0 x1 x2 x3 M r hg0 hr1 hr2 hr3 hf H locs ls hH hl
    unfold fX8_hungriest_6 at hf
    refine lv_iload_n hM.fx.1 hM.fx.2.1 dX8_hungriest_6 rfl (lv_at hl 3 rfl) ?_
    refine lv_aload_n hM.fx.1 hM.fx.2.1 dX8_hungriest_7 rfl (lv_at hl 0 rfl) ?_
    refine r_getR hM.fx hM.kf hH hLC fl_X8_10 hg0 gch_8_0 dX8_hungriest_8 ?_
    refine r_getI hM.fx hM.kf hH fl_X8_91 (hLC.in (hLC.ch hg0 (by decide) gch_8_0) (by decide)) dX8_hungriest_11 ?_
    have hr_1 := hH.2.2.i (hLC.in (hLC.ch hg0 (by decide) gch_8_0) (by decide)).2.2 (by decide : glg 1 5 = false)
    refine r_icmp_ge (tgt := 68) hM.fx hr3 hr_1 dX8_hungriest_14 (by decide) (fun h_2 => ?_) (fun h_2 => ?_)
    · have hf := gpos h_2 hf
      refine lv_iload_n hM.fx.1 hM.fx.2.1 dX8_hungriest_68 rfl (lv_at hl 1 rfl) ?_
      obtain rfl := Option.some.inj hf
      exact r_iret hM hH hr1 ⟨(Nat.le_of_ble_eq_true rfl), (Nat.le_of_ble_eq_true rfl)⟩ dX8_hungriest_69
    · have hf := gneg' h_2 hf
      refine lv_aload_n hM.fx.1 hM.fx.2.1 dX8_hungriest_17 rfl (lv_at hl 0 rfl) ?_
      refine r_getR hM.fx hM.kf hH hLC fl_X8_10 hg0 gch_8_0 dX8_hungriest_18 ?_
      refine lv_iload_n hM.fx.1 hM.fx.2.1 dX8_hungriest_21 rfl (lv_at hl 3 rfl) ?_
      obtain ⟨a_4, ea_4, hf⟩ := gbd hf
      refine r_go1 hH rfl (r_runV (As := [.int (gi x3)]) hM hH cv_X8_238 (mX0_procAt hLC hM.ns (hLC.ch hg0 (by decide) gch_8_0) hr3 ea_4) (hLC.in (hLC.ch hg0 (by decide) gch_8_0) (by decide)) (by decide) rfl rfl rfl hl.1 rfl (Nat.le_of_ble_eq_true rfl) ⟨(Nat.le_of_ble_eq_true rfl), (Nat.le_of_ble_eq_true rfl)⟩ ⟨(Nat.le_of_ble_eq_true rfl), (Nat.le_of_ble_eq_true rfl)⟩ dX8_hungriest_22) (fun hp_3 H locs hH => ?_)
      refine r_astoreV (lv' := [(4, gvR w a_4), (0, .ref (w.1 + a0)), (1, .int (gi x1)), (2, .int (gi x2)), (3, .int (gi x3))]) hM.fx dX8_hungriest_25 hl (by decide) rfl (fun ls hl => ?_)
      refine r_aloadV hM.fx dX8_hungriest_27 (lv_at hl 0 rfl) ?_
      refine r_ifnull (tgt := 62) hM.fx dX8_hungriest_29 (by decide) (fun h_5 => ?_) (fun h_5 => ?_)
      · have hf := gpos h_5 hf
        exact wX8_hungriest_62 hLC hM (fX8_hungriest_6 g fu) ih  _ _ _ _ _ _ hg0 hr1 hr2 hr3 hf _ _ _ hH (lv_sub hl [1, 2, 3, 4] rfl)
      · have hf := gneg' h_5 hf
        rw [gvR_nn h_5] at hl
        refine lv_aload hM.fx.1 hM.fx.2.1 dX8_hungriest_32 (lv_at hl 0 rfl) ?_
        refine r_getI hM.fx hM.kf hH fl_X8_140 (hLC.in (hp_3 h_5) (by decide)) dX8_hungriest_34 ?_
        have hr_6 := hH.2.2.i (hLC.in (hp_3 h_5) (by decide)).2.2 (by decide : glg 5 8 = false)
        refine r_if_ne (tgt := 62) hM.fx hr_6 dX8_hungriest_37 (by decide) (fun h_7 => ?_) (fun h_7 => ?_)
        · have hf := gneg' h_7 hf
          exact wX8_hungriest_62 hLC hM (fX8_hungriest_6 g fu) ih  _ _ _ _ _ _ hg0 hr1 hr2 hr3 hf _ _ _ hH (lv_sub hl [1, 2, 3, 4] rfl)
        · have hf := gpos h_7 hf
          refine lv_iload_n hM.fx.1 hM.fx.2.1 dX8_hungriest_40 rfl (lv_at hl 2 rfl) ?_
          refine lv_iconst (v := gi (-1)) hM.fx.1 hM.fx.2.1 dX8_hungriest_41 rfl ?_
          refine r_icmp_eq (tgt := 54) hM.fx hr1 (gcR (k := -1) (by decide)) dX8_hungriest_42 (by decide) (fun h_8 => ?_) (fun h_8 => ?_)
          · have hf := gpos h_8 hf
            exact wX8_hungriest_54 hLC hM (fX8_hungriest_6 g fu) ih  _ _ _ _ _ hg0 hr3 (hp_3 h_5) hf _ _ _ hH (lv_sub hl [1, 4, 0] rfl)
          · have hf := gneg' h_8 hf
            refine lv_aload hM.fx.1 hM.fx.2.1 dX8_hungriest_45 (lv_at hl 0 rfl) ?_
            refine r_getI hM.fx hM.kf hH fl_X8_164 (hLC.in (hp_3 h_5) (by decide)) dX8_hungriest_47 ?_
            have hr_9 := hH.2.2.i (hLC.in (hp_3 h_5) (by decide)).2.2 (by decide : glg 5 12 = false)
            refine lv_iload_n hM.fx.1 hM.fx.2.1 dX8_hungriest_50 rfl (lv_at hl 3 rfl) ?_
            refine r_icmp_ge (tgt := 62) hM.fx hr_9 hr2 dX8_hungriest_51 (by decide) (fun h_10 => ?_) (fun h_10 => ?_)
            · have hf := gpos h_10 hf
              exact wX8_hungriest_62 hLC hM (fX8_hungriest_6 g fu) ih  _ _ _ _ _ _ hg0 hr1 hr2 hr3 hf _ _ _ hH (lv_sub hl [1, 2, 3, 4] rfl)
            · have hf := gneg' h_10 hf
              exact wX8_hungriest_54 hLC hM (fX8_hungriest_6 g fu) ih  _ _ _ _ _ hg0 hr3 (hp_3 h_5) hf _ _ _ hH (lv_sub hl [1, 4, 0] rfl)
def fX8_hungriest (g : Nat → Nat) (a0 : Nat) (M : gMem) : Option Int :=
  gst ((-1)) fun x_1 => fX8_hungriest_6 g gF a0 x_1 0 0 M
set_option maxHeartbeats 4000000 in
set_option maxRecDepth 100000 in
theorem mX8_hungriest {w : gW} {n : Nat} {Rm : Nat → Nat → Nat} {g : Nat → Nat} (hLC : gLC g n Rm) {l : Launch} (hl9 : l.stackTraces = false) {a0 : Nat} {M : gMem} {r : Int} (hg0 : g a0 = 8) (hf : fX8_hungriest g a0 M = some r) : gMT w n Rm l yX8_hungriest cX8_hungriest 5 (some .int) 2 81 0 0 [.ref (w.1 + a0)] M (.inr (some (.int (gi r)))) M (gRI r) := by
  unfold fX8_hungriest at hf
  refine gMT.of hl9 (by decide +kernel) ((Nat.le_of_ble_eq_true rfl)) ?_
  intro p e s m below meth c hM hH ls hl
  have hM : gMC w p l s m ([.ref (w.1 + a0)] : List Value).toArray meth c cX8_hungriest 5 RX8 (some .int) := hM
  have hl : lv_has ls 5 [(0, .ref (w.1 + a0))] := hl
  refine lv_iconst (v := gi (-1)) hM.fx.1 hM.fx.2.1 dX8_hungriest_0 rfl ?_
  obtain ⟨x_1, ex_1, hf⟩ := gst_s hf
  refine W.eq (g2 := F0 m _ ls (.int (gi x_1) :: _)) (by rw [ex_1]) ?_
  have hx_1 : gRI x_1 := by rw [ex_1]; exact (gcR (k := -1) (by decide))
  refine lv_istore_n (lv' := [(1, .int (gi x_1)), (0, .ref (w.1 + a0))]) hM.fx.1 hM.fx.2.1 dX8_hungriest_1 rfl hl (by decide) rfl (fun ls hl => ?_)
  refine lv_iconst (v := gi (0)) hM.fx.1 hM.fx.2.1 dX8_hungriest_2 rfl ?_
  refine lv_istore_n (lv' := [(2, .int (gi 0)), (1, .int (gi x_1)), (0, .ref (w.1 + a0))]) hM.fx.1 hM.fx.2.1 dX8_hungriest_3 rfl hl (by decide) rfl (fun ls hl => ?_)
  refine lv_iconst (v := gi (0)) hM.fx.1 hM.fx.2.1 dX8_hungriest_4 rfl ?_
  refine lv_istore_n (lv' := [(3, .int (gi 0)), (2, .int (gi 0)), (1, .int (gi x_1)), (0, .ref (w.1 + a0))]) hM.fx.1 hM.fx.2.1 dX8_hungriest_5 rfl hl (by decide) rfl (fun ls hl => ?_)
  exact wX8_hungriest_6 hLC hM  gF _ _ _ _ _ _ hg0 hx_1 (gcR (k := 0) (by decide)) (gcR (k := 0) (by decide)) hf _ _ _ hH (lv_sub hl [3, 2, 1, 0] rfl)
def fX8_waitShare (g : Nat → Nat) (a0 : Nat) (M : gMem) : Option UInt64 :=
  (fX0_allWaits g (a0 + 1) M).bind fun x_2 => (fX0_allSteps g (a0 + 1) M).bind fun x_4 => gst (gwi (x_4 + x_2)) fun x_5 => if 0 < x_5 then (if (FP.ddiv (FP.i2d (gi x_2)) (FP.i2d (gi x_5))) &&& 0x7fffffffffffffff ≤ 0x7ff0000000000000 then some (FP.ddiv (FP.i2d (gi x_2)) (FP.i2d (gi x_5))) else none) else (some FP.dconst0)
set_option maxHeartbeats 4000000 in
set_option maxRecDepth 100000 in
theorem mX8_waitShare {w : gW} {n : Nat} {Rm : Nat → Nat → Nat} {g : Nat → Nat} (hLC : gLC g n Rm) {l : Launch} (hl9 : l.stackTraces = false) {a0 : Nat} {M : gMem} {r : UInt64} (hg0 : g a0 = 8) (hf : fX8_waitShare g a0 M = some r) : gMT w n Rm l yX8_waitShare cX8_waitShare 3 (some .double) 2 82 0 0 [.ref (w.1 + a0)] M (.inr (some (.double r))) M (True) := by
  unfold fX8_waitShare at hf
  refine gMT.of hl9 (by decide +kernel) ((Nat.le_of_ble_eq_true rfl)) ?_
  intro p e s m below meth c hM hH ls hl
  have hM : gMC w p l s m ([.ref (w.1 + a0)] : List Value).toArray meth c cX8_waitShare 3 RX8 (some .double) := hM
  have hl : lv_has ls 3 [(0, .ref (w.1 + a0))] := hl
  refine lv_aload_n hM.fx.1 hM.fx.2.1 dX8_waitShare_0 rfl (lv_at hl 0 rfl) ?_
  refine r_getR hM.fx hM.kf hH hLC fl_X8_10 hg0 gch_8_0 dX8_waitShare_1 ?_
  obtain ⟨x_2, ex_2, hf⟩ := gbd hf
  refine r_go1 hH rfl (r_runV (As := []) hM hH cv_X8_252 (mX0_allWaits hLC hM.ns (hLC.ch hg0 (by decide) gch_8_0) ex_2) (hLC.in (hLC.ch hg0 (by decide) gch_8_0) (by decide)) (by decide) rfl rfl rfl hl.1 rfl (Nat.le_of_ble_eq_true rfl) ⟨(Nat.le_of_ble_eq_true rfl), (Nat.le_of_ble_eq_true rfl)⟩ ⟨(Nat.le_of_ble_eq_true rfl), (Nat.le_of_ble_eq_true rfl)⟩ dX8_waitShare_4) (fun hp_1 H locs hH => ?_)
  refine lv_istore_n (lv' := [(1, .int (gi x_2)), (0, .ref (w.1 + a0))]) hM.fx.1 hM.fx.2.1 dX8_waitShare_7 rfl hl (by decide) rfl (fun ls hl => ?_)
  refine lv_aload_n hM.fx.1 hM.fx.2.1 dX8_waitShare_8 rfl (lv_at hl 1 rfl) ?_
  refine r_getR hM.fx hM.kf hH hLC fl_X8_10 hg0 gch_8_0 dX8_waitShare_9 ?_
  obtain ⟨x_4, ex_4, hf⟩ := gbd hf
  refine r_go1 hH rfl (r_runV (As := []) hM hH cv_X8_109 (mX0_allSteps hLC hM.ns (hLC.ch hg0 (by decide) gch_8_0) ex_4) (hLC.in (hLC.ch hg0 (by decide) gch_8_0) (by decide)) (by decide) rfl rfl rfl hl.1 rfl (Nat.le_of_ble_eq_true rfl) ⟨(Nat.le_of_ble_eq_true rfl), (Nat.le_of_ble_eq_true rfl)⟩ ⟨(Nat.le_of_ble_eq_true rfl), (Nat.le_of_ble_eq_true rfl)⟩ dX8_waitShare_12) (fun hp_3 H locs hH => ?_)
  refine lv_iload_n hM.fx.1 hM.fx.2.1 dX8_waitShare_15 rfl (lv_at hl 0 rfl) ?_
  refine r_iadd hM.fx dX8_waitShare_16 ?_
  obtain ⟨x_5, ex_5, hf⟩ := gst_s hf
  refine W.eq (g2 := F0 m _ ls (.int (gi x_5) :: _)) (by rw [ex_5]) ?_
  have hx_5 : gRI x_5 := by rw [ex_5]; exact (gwi_r _)
  refine lv_istore_n (lv' := [(2, .int (gi x_5)), (1, .int (gi x_2)), (0, .ref (w.1 + a0))]) hM.fx.1 hM.fx.2.1 dX8_waitShare_17 rfl hl (by decide) rfl (fun ls hl => ?_)
  refine lv_iload_n hM.fx.1 hM.fx.2.1 dX8_waitShare_18 rfl (lv_at hl 0 rfl) ?_
  refine r_if_gt (tgt := 24) hM.fx hx_5 dX8_waitShare_19 (by decide) (fun h_6 => ?_) (fun h_6 => ?_)
  · have hf := gpos h_6 hf
    refine lv_iload_n hM.fx.1 hM.fx.2.1 dX8_waitShare_24 rfl (lv_at hl 1 rfl) ?_
    refine lv_i2d hM.fx.1 hM.fx.2.1 dX8_waitShare_25 ?_
    refine lv_iload_n hM.fx.1 hM.fx.2.1 dX8_waitShare_26 rfl (lv_at hl 0 rfl) ?_
    refine lv_i2d hM.fx.1 hM.fx.2.1 dX8_waitShare_27 ?_
    obtain ⟨g_7, hf⟩ := gif hf
    refine lv_ddiv hM.fx.1 hM.fx.2.1 dX8_waitShare_28 g_7 ?_
    obtain rfl := Option.some.inj hf
    exact r_dret hM hH trivial ⟨(Nat.le_of_ble_eq_true rfl), (Nat.le_of_ble_eq_true rfl)⟩ dX8_waitShare_29
  · have hf := gneg' h_6 hf
    refine lv_dconst0 hM.fx.1 hM.fx.2.1 dX8_waitShare_22 ?_
    obtain rfl := Option.some.inj hf
    exact r_dret hM hH trivial ⟨(Nat.le_of_ble_eq_true rfl), (Nat.le_of_ble_eq_true rfl)⟩ dX8_waitShare_23
def fX8_fullness_49 (g : Nat → Nat) (k4 : Nat → UInt32 → Int → gMem → Option UInt32) (a0 : Nat) (x1 : UInt32) (x2 : Int) (M : gMem) : Option UInt32 :=
  gst (gwi (x2 + 1)) fun x_1 => k4 a0 x1 x_1 M
set_option maxHeartbeats 4000000 in
set_option maxRecDepth 100000 in
theorem wX8_fullness_49 {w : gW} {n : Nat} {Rm : Nat → Nat → Nat} {g : Nat → Nat} (hLC : gLC g n Rm) {p : Program} {l : Launch} {e : Env} {s : State} {m : MethodId} {args : Array Value} {below : List Frame} {meth : Method} {c : Code} (hM : gMC w p l s m args meth c cX8_fullness 4 RX8 (some .float)) (k4 : Nat → UInt32 → Int → gMem → Option UInt32) (hk4 : ∀ (a0 : Nat) (x1 : UInt32) (x2 : Int) (M : gMem) (r : UInt32) (hg0 : g a0 = 8) (hr2 : gRI x2) (hf : k4 a0 x1 x2 M = some r) (H : Heap) (locs : List Loc) (ls : Array Slot) (hH : gH w n Rm M s H locs) (hl : lv_has ls 4 [(0, .ref (w.1 + a0)), (1, .float x1), (2, .int (gi x2))]), W p l e { frames := 2, cells := 0, slots := 0, locals := 81 } s m args below meth c H locs 0 0 (gQ w n Rm below args s 0 0 (.inr (some (.float r))) M (True)) (F0 m 4 ls [])) : ∀ (a0 : Nat) (x1 : UInt32) (x2 : Int) (M : gMem) (r : UInt32) (hg0 : g a0 = 8) (hr2 : gRI x2) (hf : fX8_fullness_49 g k4 a0 x1 x2 M = some r) (H : Heap) (locs : List Loc) (ls : Array Slot) (hH : gH w n Rm M s H locs) (hl : lv_has ls 4 [(0, .ref (w.1 + a0)), (1, .float x1), (2, .int (gi x2))]), W p l e { frames := 2, cells := 0, slots := 0, locals := 81 } s m args below meth c H locs 0 0 (gQ w n Rm below args s 0 0 (.inr (some (.float r))) M (True)) (F0 m 49 ls []) := by
  intro a0 x1 x2 M r hg0 hr2 hf H locs ls hH hl
  unfold fX8_fullness_49 at hf
  obtain ⟨x_1, ex_1, hf⟩ := gst_s hf
  have hx_1 : gRI x_1 := by rw [ex_1]; exact gwi_r _
  refine r_iinc (lv' := [(2, .int (gi x_1)), (0, .ref (w.1 + a0)), (1, .float x1)]) hM.fx dX8_fullness_49 hl (k := 2) rfl (by decide) (by rw [ex_1]; rfl) (fun ls hl => ?_)
  refine lv_goto (tgt := 4) hM.fx.1 hM.fx.2.1 dX8_fullness_52 (by decide) ?_
  exact hk4 _ _ _ _ _ hg0 hx_1 hf _ _ _ hH (lv_sub hl [1, 2, 0] rfl)
def fX8_fullness_4 (g : Nat → Nat)  : Nat → Nat → UInt32 → Int → gMem → Option UInt32
  | 0, _, _, _, _ => none
  | fu + 1, a0, x1, x2, M => if M (a0 + 1) 6 ≤ x2 then (if 0 < M (a0 + 1) 6 then (if (FP.fdiv x1 (FP.i2f (gi (M (a0 + 1) 6)))) &&& 0x7fffffff ≤ 0x7f800000 then some (FP.fdiv x1 (FP.i2f (gi (M (a0 + 1) 6)))) else none) else (some FP.fconst0)) else ((fX0_pileAt g (a0 + 1) x2 M).bind fun a_8 => if a_8 = 0 then (fX8_fullness_49 g (fX8_fullness_4 g fu) a0 x1 x2 M) else (if M a_8 2 ≤ 0 then (fX8_fullness_49 g (fX8_fullness_4 g fu) a0 x1 x2 M) else (if (FP.fdiv (FP.i2f (gi (M a_8 1))) (FP.i2f (gi (M a_8 2)))) &&& 0x7fffffff ≤ 0x7f800000 then if (FP.fadd x1 (FP.fdiv (FP.i2f (gi (M a_8 1))) (FP.i2f (gi (M a_8 2))))) &&& 0x7fffffff ≤ 0x7f800000 then fX8_fullness_49 g (fX8_fullness_4 g fu) a0 (FP.fadd x1 (FP.fdiv (FP.i2f (gi (M a_8 1))) (FP.i2f (gi (M a_8 2))))) x2 M else none else none)))
set_option maxHeartbeats 4000000 in
set_option maxRecDepth 100000 in
theorem wX8_fullness_4 {w : gW} {n : Nat} {Rm : Nat → Nat → Nat} {g : Nat → Nat} (hLC : gLC g n Rm) {p : Program} {l : Launch} {e : Env} {s : State} {m : MethodId} {args : Array Value} {below : List Frame} {meth : Method} {c : Code} (hM : gMC w p l s m args meth c cX8_fullness 4 RX8 (some .float))  : ∀ (fu : Nat), ∀ (a0 : Nat) (x1 : UInt32) (x2 : Int) (M : gMem) (r : UInt32) (hg0 : g a0 = 8) (hr2 : gRI x2) (hf : fX8_fullness_4 g fu a0 x1 x2 M = some r) (H : Heap) (locs : List Loc) (ls : Array Slot) (hH : gH w n Rm M s H locs) (hl : lv_has ls 4 [(0, .ref (w.1 + a0)), (1, .float x1), (2, .int (gi x2))]), W p l e { frames := 2, cells := 0, slots := 0, locals := 81 } s m args below meth c H locs 0 0 (gQ w n Rm below args s 0 0 (.inr (some (.float r))) M (True)) (F0 m 4 ls []) := by
  intro fu
  induction fu with
  | zero =>
    intro a0 x1 x2 M r hg0 hr2 hf H locs ls hH hl
    exact absurd hf (by simp [fX8_fullness_4])
  | succ fu ih =>
    intro a0 x1 x2 M r hg0 hr2 hf H locs ls hH hl
    unfold fX8_fullness_4 at hf
    refine lv_iload_n hM.fx.1 hM.fx.2.1 dX8_fullness_4 rfl (lv_at hl 2 rfl) ?_
    refine lv_aload_n hM.fx.1 hM.fx.2.1 dX8_fullness_5 rfl (lv_at hl 0 rfl) ?_
    refine r_getR hM.fx hM.kf hH hLC fl_X8_10 hg0 gch_8_0 dX8_fullness_6 ?_
    refine r_getI hM.fx hM.kf hH fl_X8_100 (hLC.in (hLC.ch hg0 (by decide) gch_8_0) (by decide)) dX8_fullness_9 ?_
    have hr_1 := hH.2.2.i (hLC.in (hLC.ch hg0 (by decide) gch_8_0) (by decide)).2.2 (by decide : glg 1 6 = false)
    refine r_icmp_ge (tgt := 55) hM.fx hr2 hr_1 dX8_fullness_12 (by decide) (fun h_2 => ?_) (fun h_2 => ?_)
    · have hf := gpos h_2 hf
      refine lv_aload_n hM.fx.1 hM.fx.2.1 dX8_fullness_55 rfl (lv_at hl 0 rfl) ?_
      refine r_getR hM.fx hM.kf hH hLC fl_X8_10 hg0 gch_8_0 dX8_fullness_56 ?_
      refine r_getI hM.fx hM.kf hH fl_X8_100 (hLC.in (hLC.ch hg0 (by decide) gch_8_0) (by decide)) dX8_fullness_59 ?_
      have hr_3 := hH.2.2.i (hLC.in (hLC.ch hg0 (by decide) gch_8_0) (by decide)).2.2 (by decide : glg 1 6 = false)
      refine r_if_gt (tgt := 67) hM.fx hr_3 dX8_fullness_62 (by decide) (fun h_4 => ?_) (fun h_4 => ?_)
      · have hf := gpos h_4 hf
        refine lv_fload_n hM.fx.1 hM.fx.2.1 dX8_fullness_67 rfl (lv_at hl 1 rfl) ?_
        refine lv_aload_n hM.fx.1 hM.fx.2.1 dX8_fullness_68 rfl (lv_at hl 0 rfl) ?_
        refine r_getR hM.fx hM.kf hH hLC fl_X8_10 hg0 gch_8_0 dX8_fullness_69 ?_
        refine r_getI hM.fx hM.kf hH fl_X8_100 (hLC.in (hLC.ch hg0 (by decide) gch_8_0) (by decide)) dX8_fullness_72 ?_
        have hr_5 := hH.2.2.i (hLC.in (hLC.ch hg0 (by decide) gch_8_0) (by decide)).2.2 (by decide : glg 1 6 = false)
        refine lv_i2f hM.fx.1 hM.fx.2.1 dX8_fullness_75 ?_
        obtain ⟨g_6, hf⟩ := gif hf
        refine lv_fdiv hM.fx.1 hM.fx.2.1 dX8_fullness_76 g_6 ?_
        obtain rfl := Option.some.inj hf
        exact r_fret hM hH trivial ⟨(Nat.le_of_ble_eq_true rfl), (Nat.le_of_ble_eq_true rfl)⟩ dX8_fullness_77
      · have hf := gneg' h_4 hf
        refine lv_fconst0 hM.fx.1 hM.fx.2.1 dX8_fullness_65 ?_
        obtain rfl := Option.some.inj hf
        exact r_fret hM hH trivial ⟨(Nat.le_of_ble_eq_true rfl), (Nat.le_of_ble_eq_true rfl)⟩ dX8_fullness_66
    · have hf := gneg' h_2 hf
      refine lv_aload_n hM.fx.1 hM.fx.2.1 dX8_fullness_15 rfl (lv_at hl 0 rfl) ?_
      refine r_getR hM.fx hM.kf hH hLC fl_X8_10 hg0 gch_8_0 dX8_fullness_16 ?_
      refine lv_iload_n hM.fx.1 hM.fx.2.1 dX8_fullness_19 rfl (lv_at hl 2 rfl) ?_
      obtain ⟨a_8, ea_8, hf⟩ := gbd hf
      refine r_go1 hH rfl (r_runV (As := [.int (gi x2)]) hM hH cv_X8_255 (mX0_pileAt hLC hM.ns (hLC.ch hg0 (by decide) gch_8_0) hr2 ea_8) (hLC.in (hLC.ch hg0 (by decide) gch_8_0) (by decide)) (by decide) rfl rfl rfl hl.1 rfl (Nat.le_of_ble_eq_true rfl) ⟨(Nat.le_of_ble_eq_true rfl), (Nat.le_of_ble_eq_true rfl)⟩ ⟨(Nat.le_of_ble_eq_true rfl), (Nat.le_of_ble_eq_true rfl)⟩ dX8_fullness_20) (fun hp_7 H locs hH => ?_)
      refine r_astore_nV (lv' := [(3, gvR w a_8), (0, .ref (w.1 + a0)), (1, .float x1), (2, .int (gi x2))]) hM.fx dX8_fullness_23 rfl hl (by decide) rfl (fun ls hl => ?_)
      refine r_aload_nV hM.fx dX8_fullness_24 rfl (lv_at hl 0 rfl) ?_
      refine r_ifnull (tgt := 49) hM.fx dX8_fullness_25 (by decide) (fun h_9 => ?_) (fun h_9 => ?_)
      · have hf := gpos h_9 hf
        exact wX8_fullness_49 hLC hM (fX8_fullness_4 g fu) ih  _ _ _ _ _ hg0 hr2 hf _ _ _ hH (lv_sub hl [1, 2, 3] rfl)
      · have hf := gneg' h_9 hf
        rw [gvR_nn h_9] at hl
        refine lv_aload_n hM.fx.1 hM.fx.2.1 dX8_fullness_28 rfl (lv_at hl 0 rfl) ?_
        refine r_getI hM.fx hM.kf hH fl_X8_179 (hLC.in (hp_7 h_9) (by decide)) dX8_fullness_29 ?_
        have hr_10 := hH.2.2.i (hLC.in (hp_7 h_9) (by decide)).2.2 (by decide : glg 4 2 = false)
        refine r_if_le (tgt := 49) hM.fx hr_10 dX8_fullness_32 (by decide) (fun h_11 => ?_) (fun h_11 => ?_)
        · have hf := gpos h_11 hf
          exact wX8_fullness_49 hLC hM (fX8_fullness_4 g fu) ih  _ _ _ _ _ hg0 hr2 hf _ _ _ hH (lv_sub hl [1, 2, 3] rfl)
        · have hf := gneg' h_11 hf
          refine lv_fload_n hM.fx.1 hM.fx.2.1 dX8_fullness_35 rfl (lv_at hl 2 rfl) ?_
          refine lv_aload_n hM.fx.1 hM.fx.2.1 dX8_fullness_36 rfl (lv_at hl 0 rfl) ?_
          refine r_getI hM.fx hM.kf hH fl_X8_184 (hLC.in (hp_7 h_9) (by decide)) dX8_fullness_37 ?_
          have hr_12 := hH.2.2.i (hLC.in (hp_7 h_9) (by decide)).2.2 (by decide : glg 4 1 = false)
          refine lv_i2f hM.fx.1 hM.fx.2.1 dX8_fullness_40 ?_
          refine lv_aload_n hM.fx.1 hM.fx.2.1 dX8_fullness_41 rfl (lv_at hl 0 rfl) ?_
          refine r_getI hM.fx hM.kf hH fl_X8_179 (hLC.in (hp_7 h_9) (by decide)) dX8_fullness_42 ?_
          have hr_13 := hH.2.2.i (hLC.in (hp_7 h_9) (by decide)).2.2 (by decide : glg 4 2 = false)
          refine lv_i2f hM.fx.1 hM.fx.2.1 dX8_fullness_45 ?_
          obtain ⟨g_14, hf⟩ := gif hf
          refine lv_fdiv hM.fx.1 hM.fx.2.1 dX8_fullness_46 g_14 ?_
          obtain ⟨g_15, hf⟩ := gif hf
          refine lv_fadd hM.fx.1 hM.fx.2.1 dX8_fullness_47 g_15 ?_
          refine lv_fstore_n (lv' := [(1, .float (FP.fadd x1 (FP.fdiv (FP.i2f (gi (M a_8 1))) (FP.i2f (gi (M a_8 2)))))), (3, .ref (w.1 + a_8)), (0, .ref (w.1 + a0)), (2, .int (gi x2))]) hM.fx.1 hM.fx.2.1 dX8_fullness_48 rfl hl (by decide) rfl (fun ls hl => ?_)
          exact wX8_fullness_49 hLC hM (fX8_fullness_4 g fu) ih  _ _ _ _ _ hg0 hr2 hf _ _ _ hH (lv_sub hl [2, 0, 3] rfl)
def fX8_fullness (g : Nat → Nat) (a0 : Nat) (M : gMem) : Option UInt32 :=
  fX8_fullness_4 g gF a0 FP.fconst0 0 M
set_option maxHeartbeats 4000000 in
set_option maxRecDepth 100000 in
theorem mX8_fullness {w : gW} {n : Nat} {Rm : Nat → Nat → Nat} {g : Nat → Nat} (hLC : gLC g n Rm) {l : Launch} (hl9 : l.stackTraces = false) {a0 : Nat} {M : gMem} {r : UInt32} (hg0 : g a0 = 8) (hf : fX8_fullness g a0 M = some r) : gMT w n Rm l yX8_fullness cX8_fullness 4 (some .float) 2 81 0 0 [.ref (w.1 + a0)] M (.inr (some (.float r))) M (True) := by
  unfold fX8_fullness at hf
  refine gMT.of hl9 (by decide +kernel) ((Nat.le_of_ble_eq_true rfl)) ?_
  intro p e s m below meth c hM hH ls hl
  have hM : gMC w p l s m ([.ref (w.1 + a0)] : List Value).toArray meth c cX8_fullness 4 RX8 (some .float) := hM
  have hl : lv_has ls 4 [(0, .ref (w.1 + a0))] := hl
  refine lv_fconst0 hM.fx.1 hM.fx.2.1 dX8_fullness_0 ?_
  refine lv_fstore_n (lv' := [(1, .float FP.fconst0), (0, .ref (w.1 + a0))]) hM.fx.1 hM.fx.2.1 dX8_fullness_1 rfl hl (by decide) rfl (fun ls hl => ?_)
  refine lv_iconst (v := gi (0)) hM.fx.1 hM.fx.2.1 dX8_fullness_2 rfl ?_
  refine lv_istore_n (lv' := [(2, .int (gi 0)), (1, .float FP.fconst0), (0, .ref (w.1 + a0))]) hM.fx.1 hM.fx.2.1 dX8_fullness_3 rfl hl (by decide) rfl (fun ls hl => ?_)
  exact wX8_fullness_4 hLC hM  gF _ _ _ _ _ hg0 (gcR (k := 0) (by decide)) hf _ _ _ hH (lv_sub hl [2, 1, 0] rfl)
def fX8_turnsLeft (g : Nat → Nat) (a0 : Nat) (M : gMem) : Option (Int × gMem) :=
  (fX0_copyFrom g (a0 + 66) (a0 + 1) M).bind fun M_2 => (fX6_advance g (a0 + 66) 300 M_2).bind fun q_4 => gst q_4.1 fun x_5 => (fX6_isOver g (a0 + 66) q_4.2).bind fun x_7 => if x_7 = 0 then (some ((-1), q_4.2)) else (some (x_5, q_4.2))
set_option maxHeartbeats 4000000 in
set_option maxRecDepth 100000 in
theorem mX8_turnsLeft {w : gW} {n : Nat} {Rm : Nat → Nat → Nat} {g : Nat → Nat} (hLC : gLC g n Rm) {l : Launch} (hl9 : l.stackTraces = false) {a0 : Nat} {M : gMem} {r : (Int × gMem)} (hg0 : g a0 = 8) (hf : fX8_turnsLeft g a0 M = some r) : gMT w n Rm l yX8_turnsLeft cX8_turnsLeft 2 (some .int) 7 204 0 0 [.ref (w.1 + a0)] M (.inr (some (.int (gi r.1)))) r.2 (gRI r.1) := by
  unfold fX8_turnsLeft at hf
  refine gMT.of hl9 (by decide +kernel) ((Nat.le_of_ble_eq_true rfl)) ?_
  intro p e s m below meth c hM hH ls hl
  have hM : gMC w p l s m ([.ref (w.1 + a0)] : List Value).toArray meth c cX8_turnsLeft 2 RX8 (some .int) := hM
  have hl : lv_has ls 2 [(0, .ref (w.1 + a0))] := hl
  refine lv_aload_n hM.fx.1 hM.fx.2.1 dX8_turnsLeft_0 rfl (lv_at hl 0 rfl) ?_
  refine r_getR hM.fx hM.kf hH hLC fl_X8_26 hg0 gch_8_1 dX8_turnsLeft_1 ?_
  refine lv_aload_n hM.fx.1 hM.fx.2.1 dX8_turnsLeft_4 rfl (lv_at hl 0 rfl) ?_
  refine r_getR hM.fx hM.kf hH hLC fl_X8_10 hg0 gch_8_0 dX8_turnsLeft_5 ?_
  obtain ⟨M_2, eM_2, hf⟩ := gbd hf
  refine r_go0 hH rfl (r_runV (As := [.ref (w.1 + (a0 + 1))]) hM hH cv_X8_88 (mX0_copyFrom hLC hM.ns (hLC.ch hg0 (by decide) gch_8_1) (hLC.ch hg0 (by decide) gch_8_0) eM_2) (hLC.in (hLC.ch hg0 (by decide) gch_8_1) (by decide)) (by decide) rfl rfl rfl hl.1 rfl (Nat.le_of_ble_eq_true rfl) ⟨(Nat.le_of_ble_eq_true rfl), (Nat.le_of_ble_eq_true rfl)⟩ ⟨(Nat.le_of_ble_eq_true rfl), (Nat.le_of_ble_eq_true rfl)⟩ dX8_turnsLeft_8) (fun hp_1 H locs hH => ?_)
  refine lv_aload_n hM.fx.1 hM.fx.2.1 dX8_turnsLeft_11 rfl (lv_at hl 0 rfl) ?_
  refine r_getR hM.fx hM.kf hH hLC fl_X8_26 hg0 gch_8_1 dX8_turnsLeft_12 ?_
  refine lv_sipush (v := gi (300)) hM.fx.1 hM.fx.2.1 dX8_turnsLeft_15 (by decide) ?_
  obtain ⟨q_4, eq_4, hf⟩ := gbd hf
  refine r_go1 hH rfl (r_runS (As := [.ref (w.1 + (a0 + 66)), .int (gi 300)]) hM hH cs_X8_258 (mX6_advance hLC hM.ns (hLC.ch hg0 (by decide) gch_8_1) (gcR (k := 300) (by decide)) eq_4) rfl hl.1 rfl (Nat.le_of_ble_eq_true rfl) ⟨(Nat.le_of_ble_eq_true rfl), (Nat.le_of_ble_eq_true rfl)⟩ ⟨(Nat.le_of_ble_eq_true rfl), (Nat.le_of_ble_eq_true rfl)⟩ dX8_turnsLeft_18) (fun hp_3 H locs hH => ?_)
  obtain ⟨x_5, ex_5, hf⟩ := gst_s hf
  refine W.eq (g2 := F0 m _ ls (.int (gi x_5) :: _)) (by rw [ex_5]) ?_
  have hx_5 : gRI x_5 := by rw [ex_5]; exact hp_3
  refine lv_istore_n (lv' := [(1, .int (gi x_5)), (0, .ref (w.1 + a0))]) hM.fx.1 hM.fx.2.1 dX8_turnsLeft_21 rfl hl (by decide) rfl (fun ls hl => ?_)
  refine lv_aload_n hM.fx.1 hM.fx.2.1 dX8_turnsLeft_22 rfl (lv_at hl 1 rfl) ?_
  refine r_getR hM.fx hM.kf hH hLC fl_X8_26 hg0 gch_8_1 dX8_turnsLeft_23 ?_
  obtain ⟨x_7, ex_7, hf⟩ := gbd hf
  refine r_go1 hH rfl (r_runS (As := [.ref (w.1 + (a0 + 66))]) hM hH cs_X8_125 (mX6_isOver hLC hM.ns (hLC.ch hg0 (by decide) gch_8_1) ex_7) rfl hl.1 rfl (Nat.le_of_ble_eq_true rfl) ⟨(Nat.le_of_ble_eq_true rfl), (Nat.le_of_ble_eq_true rfl)⟩ ⟨(Nat.le_of_ble_eq_true rfl), (Nat.le_of_ble_eq_true rfl)⟩ dX8_turnsLeft_26) (fun hp_6 H locs hH => ?_)
  refine r_if_eq (tgt := 36) hM.fx (gz_r hp_6) dX8_turnsLeft_29 (by decide) (fun h_8 => ?_) (fun h_8 => ?_)
  · have hf := gpos h_8 hf
    refine lv_iconst (v := gi (-1)) hM.fx.1 hM.fx.2.1 dX8_turnsLeft_36 rfl ?_
    obtain rfl := Option.some.inj hf
    exact r_iret hM hH (gcR (k := -1) (by decide)) ⟨(Nat.le_of_ble_eq_true rfl), (Nat.le_of_ble_eq_true rfl)⟩ dX8_turnsLeft_37
  · have hf := gneg' h_8 hf
    refine lv_iload_n hM.fx.1 hM.fx.2.1 dX8_turnsLeft_32 rfl (lv_at hl 0 rfl) ?_
    refine lv_goto (tgt := 37) hM.fx.1 hM.fx.2.1 dX8_turnsLeft_33 (by decide) ?_
    obtain rfl := Option.some.inj hf
    exact r_iret hM hH hx_5 ⟨(Nat.le_of_ble_eq_true rfl), (Nat.le_of_ble_eq_true rfl)⟩ dX8_turnsLeft_37
def fX8_wouldSay (g : Nat → Nat) (a0 : Nat) (x1 : Int) (x2 : Int) (M : gMem) : Option ((Nat ⊕ Int) × gMem) :=
  gtry (fX8_existingProc g a0 x1 M) (fun e_2 => some (.inl e_2, M)) fun a_3 => if x2 < 0 then (some (.inl 2, M)) else (if x2 ≤ 300 then ((fX0_copyFrom g (a0 + 66) (a0 + 1) M).bind fun M_7 => (fX6_advance g (a0 + 66) x2 M_7).bind fun q_9 => (fX0_procAt g (a0 + 66) x1 q_9.2).bind fun a_11 => if a_11 = 0 then (some ((.inr ((-1000000))), q_9.2)) else ((fX4_sayingAt g a_11 0 q_9.2).bind fun x_14 => some ((.inr x_14), q_9.2))) else (some (.inl 2, M)))
set_option maxHeartbeats 4000000 in
set_option maxRecDepth 100000 in
theorem mX8_wouldSay {w : gW} {n : Nat} {Rm : Nat → Nat → Nat} {g : Nat → Nat} (hLC : gLC g n Rm) {l : Launch} (hl9 : l.stackTraces = false) {a0 : Nat} {x1 : Int} {x2 : Int} {M : gMem} {r : ((Nat ⊕ Int) × gMem)} (hg0 : g a0 = 8) (hr1 : gRI x1) (hr2 : gRI x2) (hf : fX8_wouldSay g a0 x1 x2 M = some r) : gMT w n Rm l yX8_wouldSay cX8_wouldSay 4 (some .int) 7 204 2 12 [.ref (w.1 + a0), .int (gi x1), .int (gi x2)] M (gOcT (fun z => some (.int (gi z))) r.1) r.2 (∀ z, r.1 = .inr z → (gRI z)) := by
  unfold fX8_wouldSay at hf
  refine gMT.of hl9 (by decide +kernel) ((Nat.le_of_ble_eq_true rfl)) ?_
  intro p e s m below meth c hM hH ls hl
  have hM : gMC w p l s m ([.ref (w.1 + a0), .int (gi x1), .int (gi x2)] : List Value).toArray meth c cX8_wouldSay 4 RX8 (some .int) := hM
  have hl : lv_has ls 4 [(0, .ref (w.1 + a0)), (1, .int (gi x1)), (2, .int (gi x2))] := hl
  refine lv_aload_n hM.fx.1 hM.fx.2.1 dX8_wouldSay_0 rfl (lv_at hl 0 rfl) ?_
  refine lv_iload_n hM.fx.1 hM.fx.2.1 dX8_wouldSay_1 rfl (lv_at hl 1 rfl) ?_
  rcases gtry_s hf with ⟨e_2, qe_2, hf⟩ | ⟨a_3, qa_3, hf⟩
  · obtain rfl := Option.some.inj hf
    exact r_goX hM hH rfl (r_runV (As := [.int (gi x1)]) hM hH cv_X8_136 (mX8_existingProc hLC hM.ns hg0 hr1 qe_2) (hLC.in hg0 (by decide)) (by decide) rfl rfl rfl hl.1 rfl (Nat.le_of_ble_eq_true rfl) ⟨(Nat.le_of_ble_eq_true rfl), (Nat.le_of_ble_eq_true rfl)⟩ ⟨(Nat.le_of_ble_eq_true rfl), (Nat.le_of_ble_eq_true rfl)⟩ dX8_wouldSay_2) ⟨(Nat.le_of_ble_eq_true rfl), (Nat.le_of_ble_eq_true rfl)⟩
  refine r_go1 hH rfl (r_runV (As := [.int (gi x1)]) hM hH cv_X8_136 (mX8_existingProc hLC hM.ns hg0 hr1 qa_3) (hLC.in hg0 (by decide)) (by decide) rfl rfl rfl hl.1 rfl (Nat.le_of_ble_eq_true rfl) ⟨(Nat.le_of_ble_eq_true rfl), (Nat.le_of_ble_eq_true rfl)⟩ ⟨(Nat.le_of_ble_eq_true rfl), (Nat.le_of_ble_eq_true rfl)⟩ dX8_wouldSay_2) (fun hp_1 H locs hH => ?_)
  refine lv_pop hM.fx.1 hM.fx.2.1 dX8_wouldSay_5 rfl ?_
  refine lv_iload_n hM.fx.1 hM.fx.2.1 dX8_wouldSay_6 rfl (lv_at hl 2 rfl) ?_
  refine r_if_lt (tgt := 17) hM.fx hr2 dX8_wouldSay_7 (by decide) (fun h_4 => ?_) (fun h_4 => ?_)
  · have hf := gpos h_4 hf
    obtain rfl := Option.some.inj hf
    exact r_throwW (i := 32) (text := "turns are 0 to 300") hM hH th_X8_131_135 rfl hl.1 dX8_wouldSay_17 dX8_wouldSay_20 dX8_wouldSay_21 dX8_wouldSay_24 dX8_wouldSay_27 ⟨(Nat.le_of_ble_eq_true rfl), (Nat.le_of_ble_eq_true rfl), (Nat.le_of_ble_eq_true rfl), (Nat.le_of_ble_eq_true rfl)⟩ ⟨(Nat.le_of_ble_eq_true rfl), (Nat.le_of_ble_eq_true rfl)⟩
  · have hf := gneg' h_4 hf
    refine lv_iload_n hM.fx.1 hM.fx.2.1 dX8_wouldSay_10 rfl (lv_at hl 2 rfl) ?_
    refine lv_sipush (v := gi (300)) hM.fx.1 hM.fx.2.1 dX8_wouldSay_11 (by decide) ?_
    refine r_icmp_le (tgt := 28) hM.fx hr2 (gcR (k := 300) (by decide)) dX8_wouldSay_14 (by decide) (fun h_5 => ?_) (fun h_5 => ?_)
    · have hf := gpos h_5 hf
      refine lv_aload_n hM.fx.1 hM.fx.2.1 dX8_wouldSay_28 rfl (lv_at hl 0 rfl) ?_
      refine r_getR hM.fx hM.kf hH hLC fl_X8_26 hg0 gch_8_1 dX8_wouldSay_29 ?_
      refine lv_aload_n hM.fx.1 hM.fx.2.1 dX8_wouldSay_32 rfl (lv_at hl 0 rfl) ?_
      refine r_getR hM.fx hM.kf hH hLC fl_X8_10 hg0 gch_8_0 dX8_wouldSay_33 ?_
      obtain ⟨M_7, eM_7, hf⟩ := gbd hf
      refine r_go0 hH rfl (r_runV (As := [.ref (w.1 + (a0 + 1))]) hM hH cv_X8_88 (mX0_copyFrom hLC hM.ns (hLC.ch hg0 (by decide) gch_8_1) (hLC.ch hg0 (by decide) gch_8_0) eM_7) (hLC.in (hLC.ch hg0 (by decide) gch_8_1) (by decide)) (by decide) rfl rfl rfl hl.1 rfl (Nat.le_of_ble_eq_true rfl) ⟨(Nat.le_of_ble_eq_true rfl), (Nat.le_of_ble_eq_true rfl)⟩ ⟨(Nat.le_of_ble_eq_true rfl), (Nat.le_of_ble_eq_true rfl)⟩ dX8_wouldSay_36) (fun hp_6 H locs hH => ?_)
      refine lv_aload_n hM.fx.1 hM.fx.2.1 dX8_wouldSay_39 rfl (lv_at hl 0 rfl) ?_
      refine r_getR hM.fx hM.kf hH hLC fl_X8_26 hg0 gch_8_1 dX8_wouldSay_40 ?_
      refine lv_iload_n hM.fx.1 hM.fx.2.1 dX8_wouldSay_43 rfl (lv_at hl 2 rfl) ?_
      obtain ⟨q_9, eq_9, hf⟩ := gbd hf
      refine r_go1 hH rfl (r_runS (As := [.ref (w.1 + (a0 + 66)), .int (gi x2)]) hM hH cs_X8_258 (mX6_advance hLC hM.ns (hLC.ch hg0 (by decide) gch_8_1) hr2 eq_9) rfl hl.1 rfl (Nat.le_of_ble_eq_true rfl) ⟨(Nat.le_of_ble_eq_true rfl), (Nat.le_of_ble_eq_true rfl)⟩ ⟨(Nat.le_of_ble_eq_true rfl), (Nat.le_of_ble_eq_true rfl)⟩ dX8_wouldSay_44) (fun hp_8 H locs hH => ?_)
      refine lv_pop hM.fx.1 hM.fx.2.1 dX8_wouldSay_47 rfl ?_
      refine lv_aload_n hM.fx.1 hM.fx.2.1 dX8_wouldSay_48 rfl (lv_at hl 0 rfl) ?_
      refine r_getR hM.fx hM.kf hH hLC fl_X8_26 hg0 gch_8_1 dX8_wouldSay_49 ?_
      refine lv_iload_n hM.fx.1 hM.fx.2.1 dX8_wouldSay_52 rfl (lv_at hl 1 rfl) ?_
      obtain ⟨a_11, ea_11, hf⟩ := gbd hf
      refine r_go1 hH rfl (r_runV (As := [.int (gi x1)]) hM hH cv_X8_238 (mX0_procAt hLC hM.ns (hLC.ch hg0 (by decide) gch_8_1) hr1 ea_11) (hLC.in (hLC.ch hg0 (by decide) gch_8_1) (by decide)) (by decide) rfl rfl rfl hl.1 rfl (Nat.le_of_ble_eq_true rfl) ⟨(Nat.le_of_ble_eq_true rfl), (Nat.le_of_ble_eq_true rfl)⟩ ⟨(Nat.le_of_ble_eq_true rfl), (Nat.le_of_ble_eq_true rfl)⟩ dX8_wouldSay_53) (fun hp_10 H locs hH => ?_)
      refine r_astore_nV (lv' := [(3, gvR w a_11), (0, .ref (w.1 + a0)), (1, .int (gi x1)), (2, .int (gi x2))]) hM.fx dX8_wouldSay_56 rfl hl (by decide) rfl (fun ls hl => ?_)
      refine r_aload_nV hM.fx dX8_wouldSay_57 rfl (lv_at hl 0 rfl) ?_
      refine r_ifnonnull (tgt := 67) hM.fx dX8_wouldSay_58 (by decide) (fun h_12 => ?_) (fun h_12 => ?_)
      · have hf := gneg' h_12 hf
        rw [gvR_nn h_12] at hl
        refine lv_aload_n hM.fx.1 hM.fx.2.1 dX8_wouldSay_67 rfl (lv_at hl 0 rfl) ?_
        refine lv_iconst (v := gi (0)) hM.fx.1 hM.fx.2.1 dX8_wouldSay_68 rfl ?_
        obtain ⟨x_14, ex_14, hf⟩ := gbd hf
        refine r_go1 hH rfl (r_runV (As := [.int (gi 0)]) hM hH cv_X8_219 (mX4_sayingAt hLC hM.ns (hp_10 h_12) (gcR (k := 0) (by decide)) ex_14) (hLC.in (hp_10 h_12) (by decide)) (by decide) rfl rfl rfl hl.1 rfl (Nat.le_of_ble_eq_true rfl) ⟨(Nat.le_of_ble_eq_true rfl), (Nat.le_of_ble_eq_true rfl)⟩ ⟨(Nat.le_of_ble_eq_true rfl), (Nat.le_of_ble_eq_true rfl)⟩ dX8_wouldSay_69) (fun hp_13 H locs hH => ?_)
        obtain rfl := Option.some.inj hf
        exact r_iret hM hH (fun z hz => by cases hz; exact hp_13) ⟨(Nat.le_of_ble_eq_true rfl), (Nat.le_of_ble_eq_true rfl)⟩ dX8_wouldSay_72
      · have hf := gpos h_12 hf
        refine r_ldcw (x := -1000000) hM.fx gw_1084 (by decide) dX8_wouldSay_61 ?_
        refine lv_goto (tgt := 72) hM.fx.1 hM.fx.2.1 dX8_wouldSay_64 (by decide) ?_
        obtain rfl := Option.some.inj hf
        exact r_iret hM hH (fun z hz => by cases hz; exact (gcR (k := -1000000) (by decide))) ⟨(Nat.le_of_ble_eq_true rfl), (Nat.le_of_ble_eq_true rfl)⟩ dX8_wouldSay_72
    · have hf := gneg' h_5 hf
      obtain rfl := Option.some.inj hf
      exact r_throwW (i := 32) (text := "turns are 0 to 300") hM hH th_X8_131_135 rfl hl.1 dX8_wouldSay_17 dX8_wouldSay_20 dX8_wouldSay_21 dX8_wouldSay_24 dX8_wouldSay_27 ⟨(Nat.le_of_ble_eq_true rfl), (Nat.le_of_ble_eq_true rfl), (Nat.le_of_ble_eq_true rfl), (Nat.le_of_ble_eq_true rfl)⟩ ⟨(Nat.le_of_ble_eq_true rfl), (Nat.le_of_ble_eq_true rfl)⟩
def fX8_wouldFail (g : Nat → Nat) (a0 : Nat) (x1 : Int) (M : gMem) : Option ((Nat ⊕ Int) × gMem) :=
  gtry (fX8_existingProc g a0 x1 M) (fun e_2 => some (.inl e_2, M)) fun a_3 => (fX0_copyFrom g (a0 + 66) (a0 + 1) M).bind fun M_5 => (fX6_advance g (a0 + 66) 300 M_5).bind fun q_7 => (fX0_procAt g (a0 + 66) x1 q_7.2).bind fun a_9 => if a_9 = 0 then (some ((.inr 0), q_7.2)) else (some ((.inr (q_7.2 a_9 9)), q_7.2))
set_option maxHeartbeats 4000000 in
set_option maxRecDepth 100000 in
theorem mX8_wouldFail {w : gW} {n : Nat} {Rm : Nat → Nat → Nat} {g : Nat → Nat} (hLC : gLC g n Rm) {l : Launch} (hl9 : l.stackTraces = false) {a0 : Nat} {x1 : Int} {M : gMem} {r : ((Nat ⊕ Int) × gMem)} (hg0 : g a0 = 8) (hr1 : gRI x1) (hf : fX8_wouldFail g a0 x1 M = some r) : gMT w n Rm l yX8_wouldFail cX8_wouldFail 3 (some .int) 7 204 1 6 [.ref (w.1 + a0), .int (gi x1)] M (gOcT (fun z => some (.int (gi z))) r.1) r.2 (∀ z, r.1 = .inr z → (gRI z)) := by
  unfold fX8_wouldFail at hf
  refine gMT.of hl9 (by decide +kernel) ((Nat.le_of_ble_eq_true rfl)) ?_
  intro p e s m below meth c hM hH ls hl
  have hM : gMC w p l s m ([.ref (w.1 + a0), .int (gi x1)] : List Value).toArray meth c cX8_wouldFail 3 RX8 (some .int) := hM
  have hl : lv_has ls 3 [(0, .ref (w.1 + a0)), (1, .int (gi x1))] := hl
  refine lv_aload_n hM.fx.1 hM.fx.2.1 dX8_wouldFail_0 rfl (lv_at hl 0 rfl) ?_
  refine lv_iload_n hM.fx.1 hM.fx.2.1 dX8_wouldFail_1 rfl (lv_at hl 1 rfl) ?_
  rcases gtry_s hf with ⟨e_2, qe_2, hf⟩ | ⟨a_3, qa_3, hf⟩
  · obtain rfl := Option.some.inj hf
    exact r_goX hM hH rfl (r_runV (As := [.int (gi x1)]) hM hH cv_X8_136 (mX8_existingProc hLC hM.ns hg0 hr1 qe_2) (hLC.in hg0 (by decide)) (by decide) rfl rfl rfl hl.1 rfl (Nat.le_of_ble_eq_true rfl) ⟨(Nat.le_of_ble_eq_true rfl), (Nat.le_of_ble_eq_true rfl)⟩ ⟨(Nat.le_of_ble_eq_true rfl), (Nat.le_of_ble_eq_true rfl)⟩ dX8_wouldFail_2) ⟨(Nat.le_of_ble_eq_true rfl), (Nat.le_of_ble_eq_true rfl)⟩
  refine r_go1 hH rfl (r_runV (As := [.int (gi x1)]) hM hH cv_X8_136 (mX8_existingProc hLC hM.ns hg0 hr1 qa_3) (hLC.in hg0 (by decide)) (by decide) rfl rfl rfl hl.1 rfl (Nat.le_of_ble_eq_true rfl) ⟨(Nat.le_of_ble_eq_true rfl), (Nat.le_of_ble_eq_true rfl)⟩ ⟨(Nat.le_of_ble_eq_true rfl), (Nat.le_of_ble_eq_true rfl)⟩ dX8_wouldFail_2) (fun hp_1 H locs hH => ?_)
  refine lv_pop hM.fx.1 hM.fx.2.1 dX8_wouldFail_5 rfl ?_
  refine lv_aload_n hM.fx.1 hM.fx.2.1 dX8_wouldFail_6 rfl (lv_at hl 0 rfl) ?_
  refine r_getR hM.fx hM.kf hH hLC fl_X8_26 hg0 gch_8_1 dX8_wouldFail_7 ?_
  refine lv_aload_n hM.fx.1 hM.fx.2.1 dX8_wouldFail_10 rfl (lv_at hl 0 rfl) ?_
  refine r_getR hM.fx hM.kf hH hLC fl_X8_10 hg0 gch_8_0 dX8_wouldFail_11 ?_
  obtain ⟨M_5, eM_5, hf⟩ := gbd hf
  refine r_go0 hH rfl (r_runV (As := [.ref (w.1 + (a0 + 1))]) hM hH cv_X8_88 (mX0_copyFrom hLC hM.ns (hLC.ch hg0 (by decide) gch_8_1) (hLC.ch hg0 (by decide) gch_8_0) eM_5) (hLC.in (hLC.ch hg0 (by decide) gch_8_1) (by decide)) (by decide) rfl rfl rfl hl.1 rfl (Nat.le_of_ble_eq_true rfl) ⟨(Nat.le_of_ble_eq_true rfl), (Nat.le_of_ble_eq_true rfl)⟩ ⟨(Nat.le_of_ble_eq_true rfl), (Nat.le_of_ble_eq_true rfl)⟩ dX8_wouldFail_14) (fun hp_4 H locs hH => ?_)
  refine lv_aload_n hM.fx.1 hM.fx.2.1 dX8_wouldFail_17 rfl (lv_at hl 0 rfl) ?_
  refine r_getR hM.fx hM.kf hH hLC fl_X8_26 hg0 gch_8_1 dX8_wouldFail_18 ?_
  refine lv_sipush (v := gi (300)) hM.fx.1 hM.fx.2.1 dX8_wouldFail_21 (by decide) ?_
  obtain ⟨q_7, eq_7, hf⟩ := gbd hf
  refine r_go1 hH rfl (r_runS (As := [.ref (w.1 + (a0 + 66)), .int (gi 300)]) hM hH cs_X8_258 (mX6_advance hLC hM.ns (hLC.ch hg0 (by decide) gch_8_1) (gcR (k := 300) (by decide)) eq_7) rfl hl.1 rfl (Nat.le_of_ble_eq_true rfl) ⟨(Nat.le_of_ble_eq_true rfl), (Nat.le_of_ble_eq_true rfl)⟩ ⟨(Nat.le_of_ble_eq_true rfl), (Nat.le_of_ble_eq_true rfl)⟩ dX8_wouldFail_24) (fun hp_6 H locs hH => ?_)
  refine lv_pop hM.fx.1 hM.fx.2.1 dX8_wouldFail_27 rfl ?_
  refine lv_aload_n hM.fx.1 hM.fx.2.1 dX8_wouldFail_28 rfl (lv_at hl 0 rfl) ?_
  refine r_getR hM.fx hM.kf hH hLC fl_X8_26 hg0 gch_8_1 dX8_wouldFail_29 ?_
  refine lv_iload_n hM.fx.1 hM.fx.2.1 dX8_wouldFail_32 rfl (lv_at hl 1 rfl) ?_
  obtain ⟨a_9, ea_9, hf⟩ := gbd hf
  refine r_go1 hH rfl (r_runV (As := [.int (gi x1)]) hM hH cv_X8_238 (mX0_procAt hLC hM.ns (hLC.ch hg0 (by decide) gch_8_1) hr1 ea_9) (hLC.in (hLC.ch hg0 (by decide) gch_8_1) (by decide)) (by decide) rfl rfl rfl hl.1 rfl (Nat.le_of_ble_eq_true rfl) ⟨(Nat.le_of_ble_eq_true rfl), (Nat.le_of_ble_eq_true rfl)⟩ ⟨(Nat.le_of_ble_eq_true rfl), (Nat.le_of_ble_eq_true rfl)⟩ dX8_wouldFail_33) (fun hp_8 H locs hH => ?_)
  refine r_astore_nV (lv' := [(2, gvR w a_9), (0, .ref (w.1 + a0)), (1, .int (gi x1))]) hM.fx dX8_wouldFail_36 rfl hl (by decide) rfl (fun ls hl => ?_)
  refine r_aload_nV hM.fx dX8_wouldFail_37 rfl (lv_at hl 0 rfl) ?_
  refine r_ifnonnull (tgt := 45) hM.fx dX8_wouldFail_38 (by decide) (fun h_10 => ?_) (fun h_10 => ?_)
  · have hf := gneg' h_10 hf
    rw [gvR_nn h_10] at hl
    refine lv_aload_n hM.fx.1 hM.fx.2.1 dX8_wouldFail_45 rfl (lv_at hl 0 rfl) ?_
    refine r_getI hM.fx hM.kf hH fl_X8_145 (hLC.in (hp_8 h_10) (by decide)) dX8_wouldFail_46 ?_
    have hr_11 := hH.2.2.i (hLC.in (hp_8 h_10) (by decide)).2.2 (by decide : glg 5 9 = false)
    obtain rfl := Option.some.inj hf
    exact r_iret hM hH (fun z hz => by cases hz; exact hr_11) ⟨(Nat.le_of_ble_eq_true rfl), (Nat.le_of_ble_eq_true rfl)⟩ dX8_wouldFail_49
  · have hf := gpos h_10 hf
    refine lv_iconst (v := gi (0)) hM.fx.1 hM.fx.2.1 dX8_wouldFail_41 rfl ?_
    refine lv_goto (tgt := 49) hM.fx.1 hM.fx.2.1 dX8_wouldFail_42 (by decide) ?_
    obtain rfl := Option.some.inj hf
    exact r_iret hM hH (fun z hz => by cases hz; exact (gcR (k := 0) (by decide))) ⟨(Nat.le_of_ble_eq_true rfl), (Nat.le_of_ble_eq_true rfl)⟩ dX8_wouldFail_49
def fX8_tryTurnLength_42 (g : Nat → Nat) (k13 : Nat → Int → Int → gMem → Option gMem) (a0 : Nat) (x1 : Int) (x2 : Int) (M : gMem) : Option gMem :=
  gst (gwi (x2 + 1)) fun x_1 => k13 a0 x1 x_1 M
set_option maxHeartbeats 4000000 in
set_option maxRecDepth 100000 in
theorem wX8_tryTurnLength_42 {w : gW} {n : Nat} {Rm : Nat → Nat → Nat} {g : Nat → Nat} (hLC : gLC g n Rm) {p : Program} {l : Launch} {e : Env} {s : State} {m : MethodId} {args : Array Value} {below : List Frame} {meth : Method} {c : Code} (hM : gMC w p l s m args meth c cX8_tryTurnLength 4 RX8 none) (k13 : Nat → Int → Int → gMem → Option gMem) (hk13 : ∀ (a0 : Nat) (x1 : Int) (x2 : Int) (M : gMem) (r : gMem) (hg0 : g a0 = 8) (hr1 : gRI x1) (hr2 : gRI x2) (hf : k13 a0 x1 x2 M = some r) (H : Heap) (locs : List Loc) (ls : Array Slot) (hH : gH w n Rm M s H locs) (hl : lv_has ls 4 [(0, .ref (w.1 + a0)), (1, .int (gi x1)), (2, .int (gi x2))]), W p l e { frames := 3, cells := 0, slots := 0, locals := 103 } s m args below meth c H locs 0 0 (gQ w n Rm below args s 0 0 (.inr none) r True) (F0 m 13 ls [])) : ∀ (a0 : Nat) (x1 : Int) (x2 : Int) (M : gMem) (r : gMem) (hg0 : g a0 = 8) (hr1 : gRI x1) (hr2 : gRI x2) (hf : fX8_tryTurnLength_42 g k13 a0 x1 x2 M = some r) (H : Heap) (locs : List Loc) (ls : Array Slot) (hH : gH w n Rm M s H locs) (hl : lv_has ls 4 [(0, .ref (w.1 + a0)), (1, .int (gi x1)), (2, .int (gi x2))]), W p l e { frames := 3, cells := 0, slots := 0, locals := 103 } s m args below meth c H locs 0 0 (gQ w n Rm below args s 0 0 (.inr none) r True) (F0 m 42 ls []) := by
  intro a0 x1 x2 M r hg0 hr1 hr2 hf H locs ls hH hl
  unfold fX8_tryTurnLength_42 at hf
  obtain ⟨x_1, ex_1, hf⟩ := gst_s hf
  have hx_1 : gRI x_1 := by rw [ex_1]; exact gwi_r _
  refine r_iinc (lv' := [(2, .int (gi x_1)), (0, .ref (w.1 + a0)), (1, .int (gi x1))]) hM.fx dX8_tryTurnLength_42 hl (k := 2) rfl (by decide) (by rw [ex_1]; rfl) (fun ls hl => ?_)
  refine lv_goto (tgt := 13) hM.fx.1 hM.fx.2.1 dX8_tryTurnLength_45 (by decide) ?_
  exact hk13 _ _ _ _ _ hg0 hr1 hx_1 hf _ _ _ hH (lv_sub hl [1, 2, 0] rfl)
def fX8_tryTurnLength_13 (g : Nat → Nat)  : Nat → Nat → Int → Int → gMem → Option gMem
  | 0, _, _, _, _ => none
  | fu + 1, a0, x1, x2, M => if M (a0 + 66) 5 ≤ x2 then (some M) else ((fX0_procAt g (a0 + 66) x2 M).bind fun a_4 => if a_4 = 0 then (fX8_tryTurnLength_42 g (fX8_tryTurnLength_13 g fu) a0 x1 x2 M) else (gst (gup M a_4 5 x1) fun M_6 => fX8_tryTurnLength_42 g (fX8_tryTurnLength_13 g fu) a0 x1 x2 M_6))
set_option maxHeartbeats 4000000 in
set_option maxRecDepth 100000 in
theorem wX8_tryTurnLength_13 {w : gW} {n : Nat} {Rm : Nat → Nat → Nat} {g : Nat → Nat} (hLC : gLC g n Rm) {p : Program} {l : Launch} {e : Env} {s : State} {m : MethodId} {args : Array Value} {below : List Frame} {meth : Method} {c : Code} (hM : gMC w p l s m args meth c cX8_tryTurnLength 4 RX8 none)  : ∀ (fu : Nat), ∀ (a0 : Nat) (x1 : Int) (x2 : Int) (M : gMem) (r : gMem) (hg0 : g a0 = 8) (hr1 : gRI x1) (hr2 : gRI x2) (hf : fX8_tryTurnLength_13 g fu a0 x1 x2 M = some r) (H : Heap) (locs : List Loc) (ls : Array Slot) (hH : gH w n Rm M s H locs) (hl : lv_has ls 4 [(0, .ref (w.1 + a0)), (1, .int (gi x1)), (2, .int (gi x2))]), W p l e { frames := 3, cells := 0, slots := 0, locals := 103 } s m args below meth c H locs 0 0 (gQ w n Rm below args s 0 0 (.inr none) r True) (F0 m 13 ls []) := by
  intro fu
  induction fu with
  | zero =>
    intro a0 x1 x2 M r hg0 hr1 hr2 hf H locs ls hH hl
    exact absurd hf (by simp [fX8_tryTurnLength_13])
  | succ fu ih =>
    intro a0 x1 x2 M r hg0 hr1 hr2 hf H locs ls hH hl
    unfold fX8_tryTurnLength_13 at hf
    refine lv_iload_n hM.fx.1 hM.fx.2.1 dX8_tryTurnLength_13 rfl (lv_at hl 2 rfl) ?_
    refine lv_aload_n hM.fx.1 hM.fx.2.1 dX8_tryTurnLength_14 rfl (lv_at hl 0 rfl) ?_
    refine r_getR hM.fx hM.kf hH hLC fl_X8_26 hg0 gch_8_1 dX8_tryTurnLength_15 ?_
    refine r_getI hM.fx hM.kf hH fl_X8_91 (hLC.in (hLC.ch hg0 (by decide) gch_8_1) (by decide)) dX8_tryTurnLength_18 ?_
    have hr_1 := hH.2.2.i (hLC.in (hLC.ch hg0 (by decide) gch_8_1) (by decide)).2.2 (by decide : glg 1 5 = false)
    refine r_icmp_ge (tgt := 48) hM.fx hr2 hr_1 dX8_tryTurnLength_21 (by decide) (fun h_2 => ?_) (fun h_2 => ?_)
    · have hf := gpos h_2 hf
      obtain rfl := Option.some.inj hf
      exact r_vret hM hH trivial ⟨(Nat.le_of_ble_eq_true rfl), (Nat.le_of_ble_eq_true rfl)⟩ dX8_tryTurnLength_48
    · have hf := gneg' h_2 hf
      refine lv_aload_n hM.fx.1 hM.fx.2.1 dX8_tryTurnLength_24 rfl (lv_at hl 0 rfl) ?_
      refine r_getR hM.fx hM.kf hH hLC fl_X8_26 hg0 gch_8_1 dX8_tryTurnLength_25 ?_
      refine lv_iload_n hM.fx.1 hM.fx.2.1 dX8_tryTurnLength_28 rfl (lv_at hl 2 rfl) ?_
      obtain ⟨a_4, ea_4, hf⟩ := gbd hf
      refine r_go1 hH rfl (r_runV (As := [.int (gi x2)]) hM hH cv_X8_238 (mX0_procAt hLC hM.ns (hLC.ch hg0 (by decide) gch_8_1) hr2 ea_4) (hLC.in (hLC.ch hg0 (by decide) gch_8_1) (by decide)) (by decide) rfl rfl rfl hl.1 rfl (Nat.le_of_ble_eq_true rfl) ⟨(Nat.le_of_ble_eq_true rfl), (Nat.le_of_ble_eq_true rfl)⟩ ⟨(Nat.le_of_ble_eq_true rfl), (Nat.le_of_ble_eq_true rfl)⟩ dX8_tryTurnLength_29) (fun hp_3 H locs hH => ?_)
      refine r_astore_nV (lv' := [(3, gvR w a_4), (0, .ref (w.1 + a0)), (1, .int (gi x1)), (2, .int (gi x2))]) hM.fx dX8_tryTurnLength_32 rfl hl (by decide) rfl (fun ls hl => ?_)
      refine r_aload_nV hM.fx dX8_tryTurnLength_33 rfl (lv_at hl 0 rfl) ?_
      refine r_ifnull (tgt := 42) hM.fx dX8_tryTurnLength_34 (by decide) (fun h_5 => ?_) (fun h_5 => ?_)
      · have hf := gpos h_5 hf
        exact wX8_tryTurnLength_42 hLC hM (fX8_tryTurnLength_13 g fu) ih  _ _ _ _ _ hg0 hr1 hr2 hf _ _ _ hH (lv_sub hl [1, 2, 3] rfl)
      · have hf := gneg' h_5 hf
        rw [gvR_nn h_5] at hl
        refine lv_aload_n hM.fx.1 hM.fx.2.1 dX8_tryTurnLength_37 rfl (lv_at hl 0 rfl) ?_
        refine lv_iload_n hM.fx.1 hM.fx.2.1 dX8_tryTurnLength_38 rfl (lv_at hl 2 rfl) ?_
        refine r_putI hM.fx hM.kf hH fp_X8_157 (hLC.in (hp_3 h_5) (by decide)) hr1 dX8_tryTurnLength_39 (fun H locs hH => ?_)
        obtain ⟨M_6, eM_6, hf⟩ := gst_s hf
        rw [← eM_6] at hH
        exact wX8_tryTurnLength_42 hLC hM (fX8_tryTurnLength_13 g fu) ih  _ _ _ _ _ hg0 hr1 hr2 hf _ _ _ hH (lv_sub hl [1, 2, 3] rfl)
def fX8_tryTurnLength (g : Nat → Nat) (a0 : Nat) (x1 : Int) (M : gMem) : Option gMem :=
  (fX0_copyFrom g (a0 + 66) (a0 + 1) M).bind fun M_2 => fX8_tryTurnLength_13 g gF a0 x1 0 M_2
set_option maxHeartbeats 4000000 in
set_option maxRecDepth 100000 in
theorem mX8_tryTurnLength {w : gW} {n : Nat} {Rm : Nat → Nat → Nat} {g : Nat → Nat} (hLC : gLC g n Rm) {l : Launch} (hl9 : l.stackTraces = false) {a0 : Nat} {x1 : Int} {M : gMem} {r : gMem} (hg0 : g a0 = 8) (hr1 : gRI x1) (hf : fX8_tryTurnLength g a0 x1 M = some r) : gMT w n Rm l yX8_tryTurnLength cX8_tryTurnLength 4 none 3 103 0 0 [.ref (w.1 + a0), .int (gi x1)] M (.inr none) r True := by
  unfold fX8_tryTurnLength at hf
  refine gMT.of hl9 (by decide +kernel) ((Nat.le_of_ble_eq_true rfl)) ?_
  intro p e s m below meth c hM hH ls hl
  have hM : gMC w p l s m ([.ref (w.1 + a0), .int (gi x1)] : List Value).toArray meth c cX8_tryTurnLength 4 RX8 none := hM
  have hl : lv_has ls 4 [(0, .ref (w.1 + a0)), (1, .int (gi x1))] := hl
  refine lv_aload_n hM.fx.1 hM.fx.2.1 dX8_tryTurnLength_0 rfl (lv_at hl 0 rfl) ?_
  refine r_getR hM.fx hM.kf hH hLC fl_X8_26 hg0 gch_8_1 dX8_tryTurnLength_1 ?_
  refine lv_aload_n hM.fx.1 hM.fx.2.1 dX8_tryTurnLength_4 rfl (lv_at hl 0 rfl) ?_
  refine r_getR hM.fx hM.kf hH hLC fl_X8_10 hg0 gch_8_0 dX8_tryTurnLength_5 ?_
  obtain ⟨M_2, eM_2, hf⟩ := gbd hf
  refine r_go0 hH rfl (r_runV (As := [.ref (w.1 + (a0 + 1))]) hM hH cv_X8_88 (mX0_copyFrom hLC hM.ns (hLC.ch hg0 (by decide) gch_8_1) (hLC.ch hg0 (by decide) gch_8_0) eM_2) (hLC.in (hLC.ch hg0 (by decide) gch_8_1) (by decide)) (by decide) rfl rfl rfl hl.1 rfl (Nat.le_of_ble_eq_true rfl) ⟨(Nat.le_of_ble_eq_true rfl), (Nat.le_of_ble_eq_true rfl)⟩ ⟨(Nat.le_of_ble_eq_true rfl), (Nat.le_of_ble_eq_true rfl)⟩ dX8_tryTurnLength_8) (fun hp_1 H locs hH => ?_)
  refine lv_iconst (v := gi (0)) hM.fx.1 hM.fx.2.1 dX8_tryTurnLength_11 rfl ?_
  refine lv_istore_n (lv' := [(2, .int (gi 0)), (0, .ref (w.1 + a0)), (1, .int (gi x1))]) hM.fx.1 hM.fx.2.1 dX8_tryTurnLength_12 rfl hl (by decide) rfl (fun ls hl => ?_)
  exact wX8_tryTurnLength_13 hLC hM  gF _ _ _ _ _ hg0 hr1 (gcR (k := 0) (by decide)) hf _ _ _ hH (lv_sub hl [1, 2, 0] rfl)
def fX8_fairest_52 (g : Nat → Nat) (k6 : Nat → Int → Int → Int → gMem → Option (Int × gMem)) (a0 : Nat) (x1 : Int) (x2 : Int) (x3 : Int) (M : gMem) : Option (Int × gMem) :=
  gst (gwi (x3 + 1)) fun x_1 => k6 a0 x1 x2 x_1 M
set_option maxHeartbeats 4000000 in
set_option maxRecDepth 100000 in
theorem wX8_fairest_52 {w : gW} {n : Nat} {Rm : Nat → Nat → Nat} {g : Nat → Nat} (hLC : gLC g n Rm) {p : Program} {l : Launch} {e : Env} {s : State} {m : MethodId} {args : Array Value} {below : List Frame} {meth : Method} {c : Code} (hM : gMC w p l s m args meth c cX8_fairest 5 RX8 (some .int)) (k6 : Nat → Int → Int → Int → gMem → Option (Int × gMem)) (hk6 : ∀ (a0 : Nat) (x1 : Int) (x2 : Int) (x3 : Int) (M : gMem) (r : (Int × gMem)) (hg0 : g a0 = 8) (hr1 : gRI x1) (hr2 : gRI x2) (hr3 : gRI x3) (hf : k6 a0 x1 x2 x3 M = some r) (H : Heap) (locs : List Loc) (ls : Array Slot) (hH : gH w n Rm M s H locs) (hl : lv_has ls 5 [(0, .ref (w.1 + a0)), (1, .int (gi x1)), (2, .int (gi x2)), (3, .int (gi x3))]), W p l e { frames := 7, cells := 0, slots := 0, locals := 204 } s m args below meth c H locs 0 0 (gQ w n Rm below args s 0 0 (.inr (some (.int (gi r.1)))) r.2 (gRI r.1)) (F0 m 6 ls [])) : ∀ (a0 : Nat) (x1 : Int) (x2 : Int) (x3 : Int) (M : gMem) (r : (Int × gMem)) (hg0 : g a0 = 8) (hr1 : gRI x1) (hr2 : gRI x2) (hr3 : gRI x3) (hf : fX8_fairest_52 g k6 a0 x1 x2 x3 M = some r) (H : Heap) (locs : List Loc) (ls : Array Slot) (hH : gH w n Rm M s H locs) (hl : lv_has ls 5 [(0, .ref (w.1 + a0)), (1, .int (gi x1)), (2, .int (gi x2)), (3, .int (gi x3))]), W p l e { frames := 7, cells := 0, slots := 0, locals := 204 } s m args below meth c H locs 0 0 (gQ w n Rm below args s 0 0 (.inr (some (.int (gi r.1)))) r.2 (gRI r.1)) (F0 m 52 ls []) := by
  intro a0 x1 x2 x3 M r hg0 hr1 hr2 hr3 hf H locs ls hH hl
  unfold fX8_fairest_52 at hf
  obtain ⟨x_1, ex_1, hf⟩ := gst_s hf
  have hx_1 : gRI x_1 := by rw [ex_1]; exact gwi_r _
  refine r_iinc (lv' := [(3, .int (gi x_1)), (0, .ref (w.1 + a0)), (1, .int (gi x1)), (2, .int (gi x2))]) hM.fx dX8_fairest_52 hl (k := 3) rfl (by decide) (by rw [ex_1]; rfl) (fun ls hl => ?_)
  refine lv_goto (tgt := 6) hM.fx.1 hM.fx.2.1 dX8_fairest_55 (by decide) ?_
  exact hk6 _ _ _ _ _ _ hg0 hr1 hr2 hx_1 hf _ _ _ hH (lv_sub hl [1, 2, 3, 0] rfl)
def fX8_fairest_47 (g : Nat → Nat) (k6 : Nat → Int → Int → Int → gMem → Option (Int × gMem)) (a0 : Nat) (x3 : Int) (x4 : Int) (M : gMem) : Option (Int × gMem) :=
  fX8_fairest_52 g k6 a0 x3 x4 x3 M
set_option maxHeartbeats 4000000 in
set_option maxRecDepth 100000 in
theorem wX8_fairest_47 {w : gW} {n : Nat} {Rm : Nat → Nat → Nat} {g : Nat → Nat} (hLC : gLC g n Rm) {p : Program} {l : Launch} {e : Env} {s : State} {m : MethodId} {args : Array Value} {below : List Frame} {meth : Method} {c : Code} (hM : gMC w p l s m args meth c cX8_fairest 5 RX8 (some .int)) (k6 : Nat → Int → Int → Int → gMem → Option (Int × gMem)) (hk6 : ∀ (a0 : Nat) (x1 : Int) (x2 : Int) (x3 : Int) (M : gMem) (r : (Int × gMem)) (hg0 : g a0 = 8) (hr1 : gRI x1) (hr2 : gRI x2) (hr3 : gRI x3) (hf : k6 a0 x1 x2 x3 M = some r) (H : Heap) (locs : List Loc) (ls : Array Slot) (hH : gH w n Rm M s H locs) (hl : lv_has ls 5 [(0, .ref (w.1 + a0)), (1, .int (gi x1)), (2, .int (gi x2)), (3, .int (gi x3))]), W p l e { frames := 7, cells := 0, slots := 0, locals := 204 } s m args below meth c H locs 0 0 (gQ w n Rm below args s 0 0 (.inr (some (.int (gi r.1)))) r.2 (gRI r.1)) (F0 m 6 ls [])) : ∀ (a0 : Nat) (x3 : Int) (x4 : Int) (M : gMem) (r : (Int × gMem)) (hg0 : g a0 = 8) (hr3 : gRI x3) (hr4 : gRI x4) (hf : fX8_fairest_47 g k6 a0 x3 x4 M = some r) (H : Heap) (locs : List Loc) (ls : Array Slot) (hH : gH w n Rm M s H locs) (hl : lv_has ls 5 [(0, .ref (w.1 + a0)), (3, .int (gi x3)), (4, .int (gi x4))]), W p l e { frames := 7, cells := 0, slots := 0, locals := 204 } s m args below meth c H locs 0 0 (gQ w n Rm below args s 0 0 (.inr (some (.int (gi r.1)))) r.2 (gRI r.1)) (F0 m 47 ls []) := by
  intro a0 x3 x4 M r hg0 hr3 hr4 hf H locs ls hH hl
  unfold fX8_fairest_47 at hf
  refine lv_iload_n hM.fx.1 hM.fx.2.1 dX8_fairest_47 rfl (lv_at hl 1 rfl) ?_
  refine lv_istore_n (lv' := [(1, .int (gi x3)), (0, .ref (w.1 + a0)), (3, .int (gi x3)), (4, .int (gi x4))]) hM.fx.1 hM.fx.2.1 dX8_fairest_48 rfl hl (by decide) rfl (fun ls hl => ?_)
  refine lv_iload hM.fx.1 hM.fx.2.1 dX8_fairest_49 (lv_at hl 3 rfl) ?_
  refine lv_istore_n (lv' := [(2, .int (gi x4)), (1, .int (gi x3)), (0, .ref (w.1 + a0)), (3, .int (gi x3)), (4, .int (gi x4))]) hM.fx.1 hM.fx.2.1 dX8_fairest_51 rfl hl (by decide) rfl (fun ls hl => ?_)
  exact wX8_fairest_52 hLC hM k6 hk6  _ _ _ _ _ _ hg0 hr3 hr4 hr3 hf _ _ _ hH (lv_sub hl [2, 1, 0, 3] rfl)
def fX8_fairest_6 (g : Nat → Nat)  : Nat → Nat → Int → Int → Int → gMem → Option (Int × gMem)
  | 0, _, _, _, _, _ => none
  | fu + 1, a0, x1, x2, x3, M => if 9 < x3 then (some (x1, M)) else ((fX8_tryTurnLength g a0 x3 M).bind fun M_3 => (fX6_advance g (a0 + 66) 60 M_3).bind fun q_5 => (fX0_stepSpread g (a0 + 66) q_5.2).bind fun x_7 => if x1 = (-1) then (fX8_fairest_47 g (fX8_fairest_6 g fu) a0 x3 x_7 q_5.2) else (if x2 ≤ x_7 then (fX8_fairest_52 g (fX8_fairest_6 g fu) a0 x1 x2 x3 q_5.2) else (fX8_fairest_47 g (fX8_fairest_6 g fu) a0 x3 x_7 q_5.2)))
set_option maxHeartbeats 4000000 in
set_option maxRecDepth 100000 in
theorem wX8_fairest_6 {w : gW} {n : Nat} {Rm : Nat → Nat → Nat} {g : Nat → Nat} (hLC : gLC g n Rm) {p : Program} {l : Launch} {e : Env} {s : State} {m : MethodId} {args : Array Value} {below : List Frame} {meth : Method} {c : Code} (hM : gMC w p l s m args meth c cX8_fairest 5 RX8 (some .int))  : ∀ (fu : Nat), ∀ (a0 : Nat) (x1 : Int) (x2 : Int) (x3 : Int) (M : gMem) (r : (Int × gMem)) (hg0 : g a0 = 8) (hr1 : gRI x1) (hr2 : gRI x2) (hr3 : gRI x3) (hf : fX8_fairest_6 g fu a0 x1 x2 x3 M = some r) (H : Heap) (locs : List Loc) (ls : Array Slot) (hH : gH w n Rm M s H locs) (hl : lv_has ls 5 [(0, .ref (w.1 + a0)), (1, .int (gi x1)), (2, .int (gi x2)), (3, .int (gi x3))]), W p l e { frames := 7, cells := 0, slots := 0, locals := 204 } s m args below meth c H locs 0 0 (gQ w n Rm below args s 0 0 (.inr (some (.int (gi r.1)))) r.2 (gRI r.1)) (F0 m 6 ls []) := by
  intro fu
  induction fu with
  | zero =>
    intro a0 x1 x2 x3 M r hg0 hr1 hr2 hr3 hf H locs ls hH hl
    exact absurd hf (by simp [fX8_fairest_6])
  | succ fu ih =>
    intro a0 x1 x2 x3 M r hg0 hr1 hr2 hr3 hf H locs ls hH hl
    unfold fX8_fairest_6 at hf
    refine lv_iload_n hM.fx.1 hM.fx.2.1 dX8_fairest_6 rfl (lv_at hl 3 rfl) ?_
    refine lv_bipush (v := gi (9)) hM.fx.1 hM.fx.2.1 dX8_fairest_7 (by decide) ?_
    refine r_icmp_gt (tgt := 58) hM.fx hr3 (gcR (k := 9) (by decide)) dX8_fairest_9 (by decide) (fun h_1 => ?_) (fun h_1 => ?_)
    · have hf := gpos h_1 hf
      refine lv_iload_n hM.fx.1 hM.fx.2.1 dX8_fairest_58 rfl (lv_at hl 1 rfl) ?_
      obtain rfl := Option.some.inj hf
      exact r_iret hM hH hr1 ⟨(Nat.le_of_ble_eq_true rfl), (Nat.le_of_ble_eq_true rfl)⟩ dX8_fairest_59
    · have hf := gneg' h_1 hf
      refine lv_aload_n hM.fx.1 hM.fx.2.1 dX8_fairest_12 rfl (lv_at hl 0 rfl) ?_
      refine lv_iload_n hM.fx.1 hM.fx.2.1 dX8_fairest_13 rfl (lv_at hl 3 rfl) ?_
      obtain ⟨M_3, eM_3, hf⟩ := gbd hf
      refine r_go0 hH rfl (r_runV (As := [.int (gi x3)]) hM hH cv_X8_265 (mX8_tryTurnLength hLC hM.ns hg0 hr3 eM_3) (hLC.in hg0 (by decide)) (by decide) rfl rfl rfl hl.1 rfl (Nat.le_of_ble_eq_true rfl) ⟨(Nat.le_of_ble_eq_true rfl), (Nat.le_of_ble_eq_true rfl)⟩ ⟨(Nat.le_of_ble_eq_true rfl), (Nat.le_of_ble_eq_true rfl)⟩ dX8_fairest_14) (fun hp_2 H locs hH => ?_)
      refine lv_aload_n hM.fx.1 hM.fx.2.1 dX8_fairest_17 rfl (lv_at hl 0 rfl) ?_
      refine r_getR hM.fx hM.kf hH hLC fl_X8_26 hg0 gch_8_1 dX8_fairest_18 ?_
      refine lv_bipush (v := gi (60)) hM.fx.1 hM.fx.2.1 dX8_fairest_21 (by decide) ?_
      obtain ⟨q_5, eq_5, hf⟩ := gbd hf
      refine r_go1 hH rfl (r_runS (As := [.ref (w.1 + (a0 + 66)), .int (gi 60)]) hM hH cs_X8_258 (mX6_advance hLC hM.ns (hLC.ch hg0 (by decide) gch_8_1) (gcR (k := 60) (by decide)) eq_5) rfl hl.1 rfl (Nat.le_of_ble_eq_true rfl) ⟨(Nat.le_of_ble_eq_true rfl), (Nat.le_of_ble_eq_true rfl)⟩ ⟨(Nat.le_of_ble_eq_true rfl), (Nat.le_of_ble_eq_true rfl)⟩ dX8_fairest_23) (fun hp_4 H locs hH => ?_)
      refine lv_pop hM.fx.1 hM.fx.2.1 dX8_fairest_26 rfl ?_
      refine lv_aload_n hM.fx.1 hM.fx.2.1 dX8_fairest_27 rfl (lv_at hl 0 rfl) ?_
      refine r_getR hM.fx hM.kf hH hLC fl_X8_26 hg0 gch_8_1 dX8_fairest_28 ?_
      obtain ⟨x_7, ex_7, hf⟩ := gbd hf
      refine r_go1 hH rfl (r_runV (As := []) hM hH cv_X8_249 (mX0_stepSpread hLC hM.ns (hLC.ch hg0 (by decide) gch_8_1) ex_7) (hLC.in (hLC.ch hg0 (by decide) gch_8_1) (by decide)) (by decide) rfl rfl rfl hl.1 rfl (Nat.le_of_ble_eq_true rfl) ⟨(Nat.le_of_ble_eq_true rfl), (Nat.le_of_ble_eq_true rfl)⟩ ⟨(Nat.le_of_ble_eq_true rfl), (Nat.le_of_ble_eq_true rfl)⟩ dX8_fairest_31) (fun hp_6 H locs hH => ?_)
      refine lv_istore (lv' := [(4, .int (gi x_7)), (0, .ref (w.1 + a0)), (1, .int (gi x1)), (2, .int (gi x2)), (3, .int (gi x3))]) hM.fx.1 hM.fx.2.1 dX8_fairest_34 hl (by decide) rfl (fun ls hl => ?_)
      refine lv_iload_n hM.fx.1 hM.fx.2.1 dX8_fairest_36 rfl (lv_at hl 2 rfl) ?_
      refine lv_iconst (v := gi (-1)) hM.fx.1 hM.fx.2.1 dX8_fairest_37 rfl ?_
      refine r_icmp_eq (tgt := 47) hM.fx hr1 (gcR (k := -1) (by decide)) dX8_fairest_38 (by decide) (fun h_8 => ?_) (fun h_8 => ?_)
      · have hf := gpos h_8 hf
        exact wX8_fairest_47 hLC hM (fX8_fairest_6 g fu) ih  _ _ _ _ _ hg0 hr3 hp_6 hf _ _ _ hH (lv_sub hl [1, 4, 0] rfl)
      · have hf := gneg' h_8 hf
        refine lv_iload hM.fx.1 hM.fx.2.1 dX8_fairest_41 (lv_at hl 0 rfl) ?_
        refine lv_iload_n hM.fx.1 hM.fx.2.1 dX8_fairest_43 rfl (lv_at hl 3 rfl) ?_
        refine r_icmp_ge (tgt := 52) hM.fx hp_6 hr2 dX8_fairest_44 (by decide) (fun h_9 => ?_) (fun h_9 => ?_)
        · have hf := gpos h_9 hf
          exact wX8_fairest_52 hLC hM (fX8_fairest_6 g fu) ih  _ _ _ _ _ _ hg0 hr1 hr2 hr3 hf _ _ _ hH (lv_sub hl [1, 2, 3, 4] rfl)
        · have hf := gneg' h_9 hf
          exact wX8_fairest_47 hLC hM (fX8_fairest_6 g fu) ih  _ _ _ _ _ hg0 hr3 hp_6 hf _ _ _ hH (lv_sub hl [1, 4, 0] rfl)
def fX8_fairest (g : Nat → Nat) (a0 : Nat) (M : gMem) : Option (Int × gMem) :=
  gst ((-1)) fun x_1 => fX8_fairest_6 g gF a0 x_1 0 1 M
set_option maxHeartbeats 4000000 in
set_option maxRecDepth 100000 in
theorem mX8_fairest {w : gW} {n : Nat} {Rm : Nat → Nat → Nat} {g : Nat → Nat} (hLC : gLC g n Rm) {l : Launch} (hl9 : l.stackTraces = false) {a0 : Nat} {M : gMem} {r : (Int × gMem)} (hg0 : g a0 = 8) (hf : fX8_fairest g a0 M = some r) : gMT w n Rm l yX8_fairest cX8_fairest 5 (some .int) 7 204 0 0 [.ref (w.1 + a0)] M (.inr (some (.int (gi r.1)))) r.2 (gRI r.1) := by
  unfold fX8_fairest at hf
  refine gMT.of hl9 (by decide +kernel) ((Nat.le_of_ble_eq_true rfl)) ?_
  intro p e s m below meth c hM hH ls hl
  have hM : gMC w p l s m ([.ref (w.1 + a0)] : List Value).toArray meth c cX8_fairest 5 RX8 (some .int) := hM
  have hl : lv_has ls 5 [(0, .ref (w.1 + a0))] := hl
  refine lv_iconst (v := gi (-1)) hM.fx.1 hM.fx.2.1 dX8_fairest_0 rfl ?_
  obtain ⟨x_1, ex_1, hf⟩ := gst_s hf
  refine W.eq (g2 := F0 m _ ls (.int (gi x_1) :: _)) (by rw [ex_1]) ?_
  have hx_1 : gRI x_1 := by rw [ex_1]; exact (gcR (k := -1) (by decide))
  refine lv_istore_n (lv' := [(1, .int (gi x_1)), (0, .ref (w.1 + a0))]) hM.fx.1 hM.fx.2.1 dX8_fairest_1 rfl hl (by decide) rfl (fun ls hl => ?_)
  refine lv_iconst (v := gi (0)) hM.fx.1 hM.fx.2.1 dX8_fairest_2 rfl ?_
  refine lv_istore_n (lv' := [(2, .int (gi 0)), (1, .int (gi x_1)), (0, .ref (w.1 + a0))]) hM.fx.1 hM.fx.2.1 dX8_fairest_3 rfl hl (by decide) rfl (fun ls hl => ?_)
  refine lv_iconst (v := gi (1)) hM.fx.1 hM.fx.2.1 dX8_fairest_4 rfl ?_
  refine lv_istore_n (lv' := [(3, .int (gi 1)), (2, .int (gi 0)), (1, .int (gi x_1)), (0, .ref (w.1 + a0))]) hM.fx.1 hM.fx.2.1 dX8_fairest_5 rfl hl (by decide) rfl (fun ls hl => ?_)
  exact wX8_fairest_6 hLC hM  gF _ _ _ _ _ _ hg0 hx_1 (gcR (k := 0) (by decide)) (gcR (k := 1) (by decide)) hf _ _ _ hH (lv_sub hl [3, 2, 1, 0] rfl)
def fX8_trySlot (g : Nat → Nat) (a0 : Nat) (x1 : Int) (x2 : Int) (M : gMem) : Option gMem :=
  (fX0_copyFrom g (a0 + 66) (a0 + 1) M).bind fun M_2 => (fX0_procAt g (a0 + 66) x1 M_2).bind fun a_4 => if a_4 = 0 then (some M_2) else (gst (gup M_2 a_4 6 (gor (M_2 a_4 6) (gshl 1 x2))) fun M_7 => some M_7)
set_option maxHeartbeats 4000000 in
set_option maxRecDepth 100000 in
theorem mX8_trySlot {w : gW} {n : Nat} {Rm : Nat → Nat → Nat} {g : Nat → Nat} (hLC : gLC g n Rm) {l : Launch} (hl9 : l.stackTraces = false) {a0 : Nat} {x1 : Int} {x2 : Int} {M : gMem} {r : gMem} (hg0 : g a0 = 8) (hr1 : gRI x1) (hr2 : gRI x2) (hf : fX8_trySlot g a0 x1 x2 M = some r) : gMT w n Rm l yX8_trySlot cX8_trySlot 4 none 3 103 0 0 [.ref (w.1 + a0), .int (gi x1), .int (gi x2)] M (.inr none) r True := by
  unfold fX8_trySlot at hf
  refine gMT.of hl9 (by decide +kernel) ((Nat.le_of_ble_eq_true rfl)) ?_
  intro p e s m below meth c hM hH ls hl
  have hM : gMC w p l s m ([.ref (w.1 + a0), .int (gi x1), .int (gi x2)] : List Value).toArray meth c cX8_trySlot 4 RX8 none := hM
  have hl : lv_has ls 4 [(0, .ref (w.1 + a0)), (1, .int (gi x1)), (2, .int (gi x2))] := hl
  refine lv_aload_n hM.fx.1 hM.fx.2.1 dX8_trySlot_0 rfl (lv_at hl 0 rfl) ?_
  refine r_getR hM.fx hM.kf hH hLC fl_X8_26 hg0 gch_8_1 dX8_trySlot_1 ?_
  refine lv_aload_n hM.fx.1 hM.fx.2.1 dX8_trySlot_4 rfl (lv_at hl 0 rfl) ?_
  refine r_getR hM.fx hM.kf hH hLC fl_X8_10 hg0 gch_8_0 dX8_trySlot_5 ?_
  obtain ⟨M_2, eM_2, hf⟩ := gbd hf
  refine r_go0 hH rfl (r_runV (As := [.ref (w.1 + (a0 + 1))]) hM hH cv_X8_88 (mX0_copyFrom hLC hM.ns (hLC.ch hg0 (by decide) gch_8_1) (hLC.ch hg0 (by decide) gch_8_0) eM_2) (hLC.in (hLC.ch hg0 (by decide) gch_8_1) (by decide)) (by decide) rfl rfl rfl hl.1 rfl (Nat.le_of_ble_eq_true rfl) ⟨(Nat.le_of_ble_eq_true rfl), (Nat.le_of_ble_eq_true rfl)⟩ ⟨(Nat.le_of_ble_eq_true rfl), (Nat.le_of_ble_eq_true rfl)⟩ dX8_trySlot_8) (fun hp_1 H locs hH => ?_)
  refine lv_aload_n hM.fx.1 hM.fx.2.1 dX8_trySlot_11 rfl (lv_at hl 0 rfl) ?_
  refine r_getR hM.fx hM.kf hH hLC fl_X8_26 hg0 gch_8_1 dX8_trySlot_12 ?_
  refine lv_iload_n hM.fx.1 hM.fx.2.1 dX8_trySlot_15 rfl (lv_at hl 1 rfl) ?_
  obtain ⟨a_4, ea_4, hf⟩ := gbd hf
  refine r_go1 hH rfl (r_runV (As := [.int (gi x1)]) hM hH cv_X8_238 (mX0_procAt hLC hM.ns (hLC.ch hg0 (by decide) gch_8_1) hr1 ea_4) (hLC.in (hLC.ch hg0 (by decide) gch_8_1) (by decide)) (by decide) rfl rfl rfl hl.1 rfl (Nat.le_of_ble_eq_true rfl) ⟨(Nat.le_of_ble_eq_true rfl), (Nat.le_of_ble_eq_true rfl)⟩ ⟨(Nat.le_of_ble_eq_true rfl), (Nat.le_of_ble_eq_true rfl)⟩ dX8_trySlot_16) (fun hp_3 H locs hH => ?_)
  refine r_astore_nV (lv' := [(3, gvR w a_4), (0, .ref (w.1 + a0)), (1, .int (gi x1)), (2, .int (gi x2))]) hM.fx dX8_trySlot_19 rfl hl (by decide) rfl (fun ls hl => ?_)
  refine r_aload_nV hM.fx dX8_trySlot_20 rfl (lv_at hl 0 rfl) ?_
  refine r_ifnull (tgt := 36) hM.fx dX8_trySlot_21 (by decide) (fun h_5 => ?_) (fun h_5 => ?_)
  · have hf := gpos h_5 hf
    obtain rfl := Option.some.inj hf
    exact r_vret hM hH trivial ⟨(Nat.le_of_ble_eq_true rfl), (Nat.le_of_ble_eq_true rfl)⟩ dX8_trySlot_36
  · have hf := gneg' h_5 hf
    rw [gvR_nn h_5] at hl
    refine lv_aload_n hM.fx.1 hM.fx.2.1 dX8_trySlot_24 rfl (lv_at hl 0 rfl) ?_
    refine lv_dup hM.fx.1 hM.fx.2.1 dX8_trySlot_25 rfl ?_
    refine r_getI hM.fx hM.kf hH fl_X8_160 (hLC.in (hp_3 h_5) (by decide)) dX8_trySlot_26 ?_
    have hr_6 := hH.2.2.i (hLC.in (hp_3 h_5) (by decide)).2.2 (by decide : glg 5 6 = false)
    refine lv_iconst (v := gi (1)) hM.fx.1 hM.fx.2.1 dX8_trySlot_29 rfl ?_
    refine lv_iload_n hM.fx.1 hM.fx.2.1 dX8_trySlot_30 rfl (lv_at hl 3 rfl) ?_
    refine r_ishl hM.fx dX8_trySlot_31 ?_
    refine r_ior hM.fx dX8_trySlot_32 ?_
    refine r_putI hM.fx hM.kf hH fp_X8_160 (hLC.in (hp_3 h_5) (by decide)) (gi_r _) dX8_trySlot_33 (fun H locs hH => ?_)
    obtain ⟨M_7, eM_7, hf⟩ := gst_s hf
    rw [← eM_7] at hH
    obtain rfl := Option.some.inj hf
    exact r_vret hM hH trivial ⟨(Nat.le_of_ble_eq_true rfl), (Nat.le_of_ble_eq_true rfl)⟩ dX8_trySlot_36
def fX8_bestSlot_106 (g : Nat → Nat) (k43 : Nat → Int → Nat → Int → Int → Int → gMem → Option ((Nat ⊕ Int) × gMem)) (a0 : Nat) (x1 : Int) (a2 : Nat) (x3 : Int) (x4 : Int) (x5 : Int) (M : gMem) : Option ((Nat ⊕ Int) × gMem) :=
  gst (gwi (x5 + 1)) fun x_1 => k43 a0 x1 a2 x3 x4 x_1 M
set_option maxHeartbeats 4000000 in
set_option maxRecDepth 100000 in
theorem wX8_bestSlot_106 {w : gW} {n : Nat} {Rm : Nat → Nat → Nat} {g : Nat → Nat} (hLC : gLC g n Rm) {p : Program} {l : Launch} {e : Env} {s : State} {m : MethodId} {args : Array Value} {below : List Frame} {meth : Method} {c : Code} (hM : gMC w p l s m args meth c cX8_bestSlot 7 RX8 (some .int)) (k43 : Nat → Int → Nat → Int → Int → Int → gMem → Option ((Nat ⊕ Int) × gMem)) (hk43 : ∀ (a0 : Nat) (x1 : Int) (a2 : Nat) (x3 : Int) (x4 : Int) (x5 : Int) (M : gMem) (r : ((Nat ⊕ Int) × gMem)) (hg0 : g a0 = 8) (hr1 : gRI x1) (hg2 : g a2 = 5) (hr3 : gRI x3) (hr4 : gRI x4) (hr5 : gRI x5) (hf : k43 a0 x1 a2 x3 x4 x5 M = some r) (H : Heap) (locs : List Loc) (ls : Array Slot) (hH : gH w n Rm M s H locs) (hl : lv_has ls 7 [(0, .ref (w.1 + a0)), (1, .int (gi x1)), (2, .ref (w.1 + a2)), (3, .int (gi x3)), (4, .int (gi x4)), (5, .int (gi x5))]), W p l e { frames := 7, cells := 1, slots := 6, locals := 204 } s m args below meth c H locs 1 6 (gQ w n Rm below args s 1 6 (gOcT (fun z => some (.int (gi z))) r.1) r.2 (∀ z, r.1 = .inr z → (gRI z))) (F0 m 43 ls [])) : ∀ (a0 : Nat) (x1 : Int) (a2 : Nat) (x3 : Int) (x4 : Int) (x5 : Int) (M : gMem) (r : ((Nat ⊕ Int) × gMem)) (hg0 : g a0 = 8) (hr1 : gRI x1) (hg2 : g a2 = 5) (hr3 : gRI x3) (hr4 : gRI x4) (hr5 : gRI x5) (hf : fX8_bestSlot_106 g k43 a0 x1 a2 x3 x4 x5 M = some r) (H : Heap) (locs : List Loc) (ls : Array Slot) (hH : gH w n Rm M s H locs) (hl : lv_has ls 7 [(0, .ref (w.1 + a0)), (1, .int (gi x1)), (2, .ref (w.1 + a2)), (3, .int (gi x3)), (4, .int (gi x4)), (5, .int (gi x5))]), W p l e { frames := 7, cells := 1, slots := 6, locals := 204 } s m args below meth c H locs 1 6 (gQ w n Rm below args s 1 6 (gOcT (fun z => some (.int (gi z))) r.1) r.2 (∀ z, r.1 = .inr z → (gRI z))) (F0 m 106 ls []) := by
  intro a0 x1 a2 x3 x4 x5 M r hg0 hr1 hg2 hr3 hr4 hr5 hf H locs ls hH hl
  unfold fX8_bestSlot_106 at hf
  obtain ⟨x_1, ex_1, hf⟩ := gst_s hf
  have hx_1 : gRI x_1 := by rw [ex_1]; exact gwi_r _
  refine r_iinc (lv' := [(5, .int (gi x_1)), (0, .ref (w.1 + a0)), (1, .int (gi x1)), (2, .ref (w.1 + a2)), (3, .int (gi x3)), (4, .int (gi x4))]) hM.fx dX8_bestSlot_106 hl (k := 5) rfl (by decide) (by rw [ex_1]; rfl) (fun ls hl => ?_)
  refine lv_goto (tgt := 43) hM.fx.1 hM.fx.2.1 dX8_bestSlot_109 (by decide) ?_
  exact hk43 _ _ _ _ _ _ _ _ hg0 hr1 hg2 hr3 hr4 hx_1 hf _ _ _ hH (lv_sub hl [1, 2, 3, 4, 5, 0] rfl)
def fX8_bestSlot_43 (g : Nat → Nat)  : Nat → Nat → Int → Nat → Int → Int → Int → gMem → Option ((Nat ⊕ Int) × gMem)
  | 0, _, _, _, _, _, _, _ => none
  | fu + 1, a0, x1, a2, x3, x4, x5, M => if M (a0 + 1) 4 ≤ x5 then (some ((.inr x3), M)) else ((fX4_mayUse g a2 x5 M).bind fun x_4 => if x_4 = 0 then ((fX8_trySlot g a0 x1 x5 M).bind fun M_7 => (fX6_advance g (a0 + 66) 300 M_7).bind fun q_9 => (fX0_countInState g (a0 + 66) 1 q_9.2).bind fun x_11 => if x_11 ≤ x4 then (fX8_bestSlot_106 g (fX8_bestSlot_43 g fu) a0 x1 a2 x3 x4 x5 q_9.2) else (fX8_bestSlot_106 g (fX8_bestSlot_43 g fu) a0 x1 a2 x5 x_11 x5 q_9.2)) else (fX8_bestSlot_106 g (fX8_bestSlot_43 g fu) a0 x1 a2 x3 x4 x5 M))
set_option maxHeartbeats 4000000 in
set_option maxRecDepth 100000 in
theorem wX8_bestSlot_43 {w : gW} {n : Nat} {Rm : Nat → Nat → Nat} {g : Nat → Nat} (hLC : gLC g n Rm) {p : Program} {l : Launch} {e : Env} {s : State} {m : MethodId} {args : Array Value} {below : List Frame} {meth : Method} {c : Code} (hM : gMC w p l s m args meth c cX8_bestSlot 7 RX8 (some .int))  : ∀ (fu : Nat), ∀ (a0 : Nat) (x1 : Int) (a2 : Nat) (x3 : Int) (x4 : Int) (x5 : Int) (M : gMem) (r : ((Nat ⊕ Int) × gMem)) (hg0 : g a0 = 8) (hr1 : gRI x1) (hg2 : g a2 = 5) (hr3 : gRI x3) (hr4 : gRI x4) (hr5 : gRI x5) (hf : fX8_bestSlot_43 g fu a0 x1 a2 x3 x4 x5 M = some r) (H : Heap) (locs : List Loc) (ls : Array Slot) (hH : gH w n Rm M s H locs) (hl : lv_has ls 7 [(0, .ref (w.1 + a0)), (1, .int (gi x1)), (2, .ref (w.1 + a2)), (3, .int (gi x3)), (4, .int (gi x4)), (5, .int (gi x5))]), W p l e { frames := 7, cells := 1, slots := 6, locals := 204 } s m args below meth c H locs 1 6 (gQ w n Rm below args s 1 6 (gOcT (fun z => some (.int (gi z))) r.1) r.2 (∀ z, r.1 = .inr z → (gRI z))) (F0 m 43 ls []) := by
  intro fu
  induction fu with
  | zero =>
    intro a0 x1 a2 x3 x4 x5 M r hg0 hr1 hg2 hr3 hr4 hr5 hf H locs ls hH hl
    exact absurd hf (by simp [fX8_bestSlot_43])
  | succ fu ih =>
    intro a0 x1 a2 x3 x4 x5 M r hg0 hr1 hg2 hr3 hr4 hr5 hf H locs ls hH hl
    unfold fX8_bestSlot_43 at hf
    refine lv_iload hM.fx.1 hM.fx.2.1 dX8_bestSlot_43 (lv_at hl 5 rfl) ?_
    refine lv_aload_n hM.fx.1 hM.fx.2.1 dX8_bestSlot_45 rfl (lv_at hl 0 rfl) ?_
    refine r_getR hM.fx hM.kf hH hLC fl_X8_10 hg0 gch_8_0 dX8_bestSlot_46 ?_
    refine r_getI hM.fx hM.kf hH fl_X8_97 (hLC.in (hLC.ch hg0 (by decide) gch_8_0) (by decide)) dX8_bestSlot_49 ?_
    have hr_1 := hH.2.2.i (hLC.in (hLC.ch hg0 (by decide) gch_8_0) (by decide)).2.2 (by decide : glg 1 4 = false)
    refine r_icmp_ge (tgt := 112) hM.fx hr5 hr_1 dX8_bestSlot_52 (by decide) (fun h_2 => ?_) (fun h_2 => ?_)
    · have hf := gpos h_2 hf
      refine lv_iload_n hM.fx.1 hM.fx.2.1 dX8_bestSlot_112 rfl (lv_at hl 3 rfl) ?_
      obtain rfl := Option.some.inj hf
      exact r_iret hM hH (fun z hz => by cases hz; exact hr3) ⟨(Nat.le_of_ble_eq_true rfl), (Nat.le_of_ble_eq_true rfl)⟩ dX8_bestSlot_113
    · have hf := gneg' h_2 hf
      refine lv_aload_n hM.fx.1 hM.fx.2.1 dX8_bestSlot_55 rfl (lv_at hl 2 rfl) ?_
      refine lv_iload hM.fx.1 hM.fx.2.1 dX8_bestSlot_56 (lv_at hl 5 rfl) ?_
      obtain ⟨x_4, ex_4, hf⟩ := gbd hf
      refine r_go1 hH rfl (r_runV (As := [.int (gi x5)]) hM hH cv_X8_241 (mX4_mayUse hLC hM.ns hg2 hr5 ex_4) (hLC.in hg2 (by decide)) (by decide) rfl rfl rfl hl.1 rfl (Nat.le_of_ble_eq_true rfl) ⟨(Nat.le_of_ble_eq_true rfl), (Nat.le_of_ble_eq_true rfl)⟩ ⟨(Nat.le_of_ble_eq_true rfl), (Nat.le_of_ble_eq_true rfl)⟩ dX8_bestSlot_58) (fun hp_3 H locs hH => ?_)
      refine r_if_ne (tgt := 106) hM.fx (gz_r hp_3) dX8_bestSlot_61 (by decide) (fun h_5 => ?_) (fun h_5 => ?_)
      · have hf := gneg' h_5 hf
        exact wX8_bestSlot_106 hLC hM (fX8_bestSlot_43 g fu) ih  _ _ _ _ _ _ _ _ hg0 hr1 hg2 hr3 hr4 hr5 hf _ _ _ hH hl
      · have hf := gpos h_5 hf
        refine lv_aload_n hM.fx.1 hM.fx.2.1 dX8_bestSlot_64 rfl (lv_at hl 0 rfl) ?_
        refine lv_iload_n hM.fx.1 hM.fx.2.1 dX8_bestSlot_65 rfl (lv_at hl 1 rfl) ?_
        refine lv_iload hM.fx.1 hM.fx.2.1 dX8_bestSlot_66 (lv_at hl 5 rfl) ?_
        obtain ⟨M_7, eM_7, hf⟩ := gbd hf
        refine r_go0 hH rfl (r_runV (As := [.int (gi x1), .int (gi x5)]) hM hH cv_X8_268 (mX8_trySlot hLC hM.ns hg0 hr1 hr5 eM_7) (hLC.in hg0 (by decide)) (by decide) rfl rfl rfl hl.1 rfl (Nat.le_of_ble_eq_true rfl) ⟨(Nat.le_of_ble_eq_true rfl), (Nat.le_of_ble_eq_true rfl)⟩ ⟨(Nat.le_of_ble_eq_true rfl), (Nat.le_of_ble_eq_true rfl)⟩ dX8_bestSlot_68) (fun hp_6 H locs hH => ?_)
        refine lv_aload_n hM.fx.1 hM.fx.2.1 dX8_bestSlot_71 rfl (lv_at hl 0 rfl) ?_
        refine r_getR hM.fx hM.kf hH hLC fl_X8_26 hg0 gch_8_1 dX8_bestSlot_72 ?_
        refine lv_sipush (v := gi (300)) hM.fx.1 hM.fx.2.1 dX8_bestSlot_75 (by decide) ?_
        obtain ⟨q_9, eq_9, hf⟩ := gbd hf
        refine r_go1 hH rfl (r_runS (As := [.ref (w.1 + (a0 + 66)), .int (gi 300)]) hM hH cs_X8_258 (mX6_advance hLC hM.ns (hLC.ch hg0 (by decide) gch_8_1) (gcR (k := 300) (by decide)) eq_9) rfl hl.1 rfl (Nat.le_of_ble_eq_true rfl) ⟨(Nat.le_of_ble_eq_true rfl), (Nat.le_of_ble_eq_true rfl)⟩ ⟨(Nat.le_of_ble_eq_true rfl), (Nat.le_of_ble_eq_true rfl)⟩ dX8_bestSlot_78) (fun hp_8 H locs hH => ?_)
        refine lv_pop hM.fx.1 hM.fx.2.1 dX8_bestSlot_81 rfl ?_
        refine lv_aload_n hM.fx.1 hM.fx.2.1 dX8_bestSlot_82 rfl (lv_at hl 0 rfl) ?_
        refine r_getR hM.fx hM.kf hH hLC fl_X8_26 hg0 gch_8_1 dX8_bestSlot_83 ?_
        refine lv_iconst (v := gi (1)) hM.fx.1 hM.fx.2.1 dX8_bestSlot_86 rfl ?_
        obtain ⟨x_11, ex_11, hf⟩ := gbd hf
        refine r_go1 hH rfl (r_runV (As := [.int (gi 1)]) hM hH cv_X8_106 (mX0_countInState hLC hM.ns (hLC.ch hg0 (by decide) gch_8_1) (gcR (k := 1) (by decide)) ex_11) (hLC.in (hLC.ch hg0 (by decide) gch_8_1) (by decide)) (by decide) rfl rfl rfl hl.1 rfl (Nat.le_of_ble_eq_true rfl) ⟨(Nat.le_of_ble_eq_true rfl), (Nat.le_of_ble_eq_true rfl)⟩ ⟨(Nat.le_of_ble_eq_true rfl), (Nat.le_of_ble_eq_true rfl)⟩ dX8_bestSlot_87) (fun hp_10 H locs hH => ?_)
        refine lv_istore (lv' := [(6, .int (gi x_11)), (0, .ref (w.1 + a0)), (1, .int (gi x1)), (2, .ref (w.1 + a2)), (3, .int (gi x3)), (4, .int (gi x4)), (5, .int (gi x5))]) hM.fx.1 hM.fx.2.1 dX8_bestSlot_90 hl (by decide) rfl (fun ls hl => ?_)
        refine lv_iload hM.fx.1 hM.fx.2.1 dX8_bestSlot_92 (lv_at hl 0 rfl) ?_
        refine lv_iload hM.fx.1 hM.fx.2.1 dX8_bestSlot_94 (lv_at hl 5 rfl) ?_
        refine r_icmp_le (tgt := 106) hM.fx hp_10 hr4 dX8_bestSlot_96 (by decide) (fun h_12 => ?_) (fun h_12 => ?_)
        · have hf := gpos h_12 hf
          exact wX8_bestSlot_106 hLC hM (fX8_bestSlot_43 g fu) ih  _ _ _ _ _ _ _ _ hg0 hr1 hg2 hr3 hr4 hr5 hf _ _ _ hH (lv_sub hl [1, 2, 3, 4, 5, 6] rfl)
        · have hf := gneg' h_12 hf
          refine lv_iload hM.fx.1 hM.fx.2.1 dX8_bestSlot_99 (lv_at hl 6 rfl) ?_
          refine lv_istore_n (lv' := [(3, .int (gi x5)), (6, .int (gi x_11)), (0, .ref (w.1 + a0)), (1, .int (gi x1)), (2, .ref (w.1 + a2)), (4, .int (gi x4)), (5, .int (gi x5))]) hM.fx.1 hM.fx.2.1 dX8_bestSlot_101 rfl hl (by decide) rfl (fun ls hl => ?_)
          refine lv_iload hM.fx.1 hM.fx.2.1 dX8_bestSlot_102 (lv_at hl 1 rfl) ?_
          refine lv_istore (lv' := [(4, .int (gi x_11)), (3, .int (gi x5)), (6, .int (gi x_11)), (0, .ref (w.1 + a0)), (1, .int (gi x1)), (2, .ref (w.1 + a2)), (5, .int (gi x5))]) hM.fx.1 hM.fx.2.1 dX8_bestSlot_104 hl (by decide) rfl (fun ls hl => ?_)
          exact wX8_bestSlot_106 hLC hM (fX8_bestSlot_43 g fu) ih  _ _ _ _ _ _ _ _ hg0 hr1 hg2 hr5 hp_10 hr5 hf _ _ _ hH (lv_sub hl [3, 4, 5, 1, 0, 6] rfl)
def fX8_bestSlot (g : Nat → Nat) (a0 : Nat) (x1 : Int) (M : gMem) : Option ((Nat ⊕ Int) × gMem) :=
  gtry (fX8_existingProc g a0 x1 M) (fun e_2 => some (.inl e_2, M)) fun a_3 => (fX0_copyFrom g (a0 + 66) (a0 + 1) M).bind fun M_5 => (fX6_advance g (a0 + 66) 300 M_5).bind fun q_7 => gst ((-1)) fun x_8 => (fX0_countInState g (a0 + 66) 1 q_7.2).bind fun x_10 => fX8_bestSlot_43 g gF a0 x1 a_3 x_8 x_10 0 q_7.2
set_option maxHeartbeats 4000000 in
set_option maxRecDepth 100000 in
theorem mX8_bestSlot {w : gW} {n : Nat} {Rm : Nat → Nat → Nat} {g : Nat → Nat} (hLC : gLC g n Rm) {l : Launch} (hl9 : l.stackTraces = false) {a0 : Nat} {x1 : Int} {M : gMem} {r : ((Nat ⊕ Int) × gMem)} (hg0 : g a0 = 8) (hr1 : gRI x1) (hf : fX8_bestSlot g a0 x1 M = some r) : gMT w n Rm l yX8_bestSlot cX8_bestSlot 7 (some .int) 7 204 1 6 [.ref (w.1 + a0), .int (gi x1)] M (gOcT (fun z => some (.int (gi z))) r.1) r.2 (∀ z, r.1 = .inr z → (gRI z)) := by
  unfold fX8_bestSlot at hf
  refine gMT.of hl9 (by decide +kernel) ((Nat.le_of_ble_eq_true rfl)) ?_
  intro p e s m below meth c hM hH ls hl
  have hM : gMC w p l s m ([.ref (w.1 + a0), .int (gi x1)] : List Value).toArray meth c cX8_bestSlot 7 RX8 (some .int) := hM
  have hl : lv_has ls 7 [(0, .ref (w.1 + a0)), (1, .int (gi x1))] := hl
  refine lv_aload_n hM.fx.1 hM.fx.2.1 dX8_bestSlot_0 rfl (lv_at hl 0 rfl) ?_
  refine lv_iload_n hM.fx.1 hM.fx.2.1 dX8_bestSlot_1 rfl (lv_at hl 1 rfl) ?_
  rcases gtry_s hf with ⟨e_2, qe_2, hf⟩ | ⟨a_3, qa_3, hf⟩
  · obtain rfl := Option.some.inj hf
    exact r_goX hM hH rfl (r_runV (As := [.int (gi x1)]) hM hH cv_X8_136 (mX8_existingProc hLC hM.ns hg0 hr1 qe_2) (hLC.in hg0 (by decide)) (by decide) rfl rfl rfl hl.1 rfl (Nat.le_of_ble_eq_true rfl) ⟨(Nat.le_of_ble_eq_true rfl), (Nat.le_of_ble_eq_true rfl)⟩ ⟨(Nat.le_of_ble_eq_true rfl), (Nat.le_of_ble_eq_true rfl)⟩ dX8_bestSlot_2) ⟨(Nat.le_of_ble_eq_true rfl), (Nat.le_of_ble_eq_true rfl)⟩
  refine r_go1 hH rfl (r_runV (As := [.int (gi x1)]) hM hH cv_X8_136 (mX8_existingProc hLC hM.ns hg0 hr1 qa_3) (hLC.in hg0 (by decide)) (by decide) rfl rfl rfl hl.1 rfl (Nat.le_of_ble_eq_true rfl) ⟨(Nat.le_of_ble_eq_true rfl), (Nat.le_of_ble_eq_true rfl)⟩ ⟨(Nat.le_of_ble_eq_true rfl), (Nat.le_of_ble_eq_true rfl)⟩ dX8_bestSlot_2) (fun hp_1 H locs hH => ?_)
  refine lv_astore_n (lv' := [(2, .ref (w.1 + a_3)), (0, .ref (w.1 + a0)), (1, .int (gi x1))]) hM.fx.1 hM.fx.2.1 dX8_bestSlot_5 rfl hl (by decide) rfl (fun ls hl => ?_)
  refine lv_aload_n hM.fx.1 hM.fx.2.1 dX8_bestSlot_6 rfl (lv_at hl 1 rfl) ?_
  refine r_getR hM.fx hM.kf hH hLC fl_X8_26 hg0 gch_8_1 dX8_bestSlot_7 ?_
  refine lv_aload_n hM.fx.1 hM.fx.2.1 dX8_bestSlot_10 rfl (lv_at hl 1 rfl) ?_
  refine r_getR hM.fx hM.kf hH hLC fl_X8_10 hg0 gch_8_0 dX8_bestSlot_11 ?_
  obtain ⟨M_5, eM_5, hf⟩ := gbd hf
  refine r_go0 hH rfl (r_runV (As := [.ref (w.1 + (a0 + 1))]) hM hH cv_X8_88 (mX0_copyFrom hLC hM.ns (hLC.ch hg0 (by decide) gch_8_1) (hLC.ch hg0 (by decide) gch_8_0) eM_5) (hLC.in (hLC.ch hg0 (by decide) gch_8_1) (by decide)) (by decide) rfl rfl rfl hl.1 rfl (Nat.le_of_ble_eq_true rfl) ⟨(Nat.le_of_ble_eq_true rfl), (Nat.le_of_ble_eq_true rfl)⟩ ⟨(Nat.le_of_ble_eq_true rfl), (Nat.le_of_ble_eq_true rfl)⟩ dX8_bestSlot_14) (fun hp_4 H locs hH => ?_)
  refine lv_aload_n hM.fx.1 hM.fx.2.1 dX8_bestSlot_17 rfl (lv_at hl 1 rfl) ?_
  refine r_getR hM.fx hM.kf hH hLC fl_X8_26 hg0 gch_8_1 dX8_bestSlot_18 ?_
  refine lv_sipush (v := gi (300)) hM.fx.1 hM.fx.2.1 dX8_bestSlot_21 (by decide) ?_
  obtain ⟨q_7, eq_7, hf⟩ := gbd hf
  refine r_go1 hH rfl (r_runS (As := [.ref (w.1 + (a0 + 66)), .int (gi 300)]) hM hH cs_X8_258 (mX6_advance hLC hM.ns (hLC.ch hg0 (by decide) gch_8_1) (gcR (k := 300) (by decide)) eq_7) rfl hl.1 rfl (Nat.le_of_ble_eq_true rfl) ⟨(Nat.le_of_ble_eq_true rfl), (Nat.le_of_ble_eq_true rfl)⟩ ⟨(Nat.le_of_ble_eq_true rfl), (Nat.le_of_ble_eq_true rfl)⟩ dX8_bestSlot_24) (fun hp_6 H locs hH => ?_)
  refine lv_pop hM.fx.1 hM.fx.2.1 dX8_bestSlot_27 rfl ?_
  refine lv_iconst (v := gi (-1)) hM.fx.1 hM.fx.2.1 dX8_bestSlot_28 rfl ?_
  obtain ⟨x_8, ex_8, hf⟩ := gst_s hf
  refine W.eq (g2 := F0 m _ ls (.int (gi x_8) :: _)) (by rw [ex_8]) ?_
  have hx_8 : gRI x_8 := by rw [ex_8]; exact (gcR (k := -1) (by decide))
  refine lv_istore_n (lv' := [(3, .int (gi x_8)), (2, .ref (w.1 + a_3)), (0, .ref (w.1 + a0)), (1, .int (gi x1))]) hM.fx.1 hM.fx.2.1 dX8_bestSlot_29 rfl hl (by decide) rfl (fun ls hl => ?_)
  refine lv_aload_n hM.fx.1 hM.fx.2.1 dX8_bestSlot_30 rfl (lv_at hl 2 rfl) ?_
  refine r_getR hM.fx hM.kf hH hLC fl_X8_26 hg0 gch_8_1 dX8_bestSlot_31 ?_
  refine lv_iconst (v := gi (1)) hM.fx.1 hM.fx.2.1 dX8_bestSlot_34 rfl ?_
  obtain ⟨x_10, ex_10, hf⟩ := gbd hf
  refine r_go1 hH rfl (r_runV (As := [.int (gi 1)]) hM hH cv_X8_106 (mX0_countInState hLC hM.ns (hLC.ch hg0 (by decide) gch_8_1) (gcR (k := 1) (by decide)) ex_10) (hLC.in (hLC.ch hg0 (by decide) gch_8_1) (by decide)) (by decide) rfl rfl rfl hl.1 rfl (Nat.le_of_ble_eq_true rfl) ⟨(Nat.le_of_ble_eq_true rfl), (Nat.le_of_ble_eq_true rfl)⟩ ⟨(Nat.le_of_ble_eq_true rfl), (Nat.le_of_ble_eq_true rfl)⟩ dX8_bestSlot_35) (fun hp_9 H locs hH => ?_)
  refine lv_istore (lv' := [(4, .int (gi x_10)), (3, .int (gi x_8)), (2, .ref (w.1 + a_3)), (0, .ref (w.1 + a0)), (1, .int (gi x1))]) hM.fx.1 hM.fx.2.1 dX8_bestSlot_38 hl (by decide) rfl (fun ls hl => ?_)
  refine lv_iconst (v := gi (0)) hM.fx.1 hM.fx.2.1 dX8_bestSlot_40 rfl ?_
  refine lv_istore (lv' := [(5, .int (gi 0)), (4, .int (gi x_10)), (3, .int (gi x_8)), (2, .ref (w.1 + a_3)), (0, .ref (w.1 + a0)), (1, .int (gi x1))]) hM.fx.1 hM.fx.2.1 dX8_bestSlot_41 hl (by decide) rfl (fun ls hl => ?_)
  exact wX8_bestSlot_43 hLC hM  gF _ _ _ _ _ _ _ _ hg0 hr1 (hp_1 _ rfl) hx_8 hp_9 (gcR (k := 0) (by decide)) hf _ _ _ hH (lv_sub hl [4, 5, 3, 2, 1, 0] rfl)
def fX8_run (g : Nat → Nat) (a0 : Nat) (x1 : Int) (M : gMem) : Option ((Nat ⊕ Int) × gMem) :=
  if x1 < 1 then (some (.inl 2, M)) else (if x1 ≤ 300 then ((fX1_remember g (a0 + 131) (a0 + 1) M).bind fun M_4 => (fX6_advance g (a0 + 1) x1 M_4).bind fun q_6 => some ((.inr q_6.1), q_6.2)) else (some (.inl 2, M)))
set_option maxHeartbeats 4000000 in
set_option maxRecDepth 100000 in
theorem mX8_run {w : gW} {n : Nat} {Rm : Nat → Nat → Nat} {g : Nat → Nat} (hLC : gLC g n Rm) {l : Launch} (hl9 : l.stackTraces = false) {a0 : Nat} {x1 : Int} {M : gMem} {r : ((Nat ⊕ Int) × gMem)} (hg0 : g a0 = 8) (hr1 : gRI x1) (hf : fX8_run g a0 x1 M = some r) : gMT w n Rm l yX8_run cX8_run 2 (some .int) 7 204 1 6 [.ref (w.1 + a0), .int (gi x1)] M (gOcT (fun z => some (.int (gi z))) r.1) r.2 (∀ z, r.1 = .inr z → (gRI z)) := by
  unfold fX8_run at hf
  refine gMT.of hl9 (by decide +kernel) ((Nat.le_of_ble_eq_true rfl)) ?_
  intro p e s m below meth c hM hH ls hl
  have hM : gMC w p l s m ([.ref (w.1 + a0), .int (gi x1)] : List Value).toArray meth c cX8_run 2 RX8 (some .int) := hM
  have hl : lv_has ls 2 [(0, .ref (w.1 + a0)), (1, .int (gi x1))] := hl
  refine lv_iload_n hM.fx.1 hM.fx.2.1 dX8_run_0 rfl (lv_at hl 1 rfl) ?_
  refine lv_iconst (v := gi (1)) hM.fx.1 hM.fx.2.1 dX8_run_1 rfl ?_
  refine r_icmp_lt (tgt := 12) hM.fx hr1 (gcR (k := 1) (by decide)) dX8_run_2 (by decide) (fun h_1 => ?_) (fun h_1 => ?_)
  · have hf := gpos h_1 hf
    obtain rfl := Option.some.inj hf
    exact r_throwW (i := 33) (text := "turns are 1 to 300") hM hH th_X8_131_135 rfl hl.1 dX8_run_12 dX8_run_15 dX8_run_16 dX8_run_19 dX8_run_22 ⟨(Nat.le_of_ble_eq_true rfl), (Nat.le_of_ble_eq_true rfl), (Nat.le_of_ble_eq_true rfl), (Nat.le_of_ble_eq_true rfl)⟩ ⟨(Nat.le_of_ble_eq_true rfl), (Nat.le_of_ble_eq_true rfl)⟩
  · have hf := gneg' h_1 hf
    refine lv_iload_n hM.fx.1 hM.fx.2.1 dX8_run_5 rfl (lv_at hl 1 rfl) ?_
    refine lv_sipush (v := gi (300)) hM.fx.1 hM.fx.2.1 dX8_run_6 (by decide) ?_
    refine r_icmp_le (tgt := 23) hM.fx hr1 (gcR (k := 300) (by decide)) dX8_run_9 (by decide) (fun h_2 => ?_) (fun h_2 => ?_)
    · have hf := gpos h_2 hf
      refine lv_aload_n hM.fx.1 hM.fx.2.1 dX8_run_23 rfl (lv_at hl 0 rfl) ?_
      refine r_getR hM.fx hM.kf hH hLC fl_X8_32 hg0 gch_8_2 dX8_run_24 ?_
      refine lv_aload_n hM.fx.1 hM.fx.2.1 dX8_run_27 rfl (lv_at hl 0 rfl) ?_
      refine r_getR hM.fx hM.kf hH hLC fl_X8_10 hg0 gch_8_0 dX8_run_28 ?_
      obtain ⟨M_4, eM_4, hf⟩ := gbd hf
      refine r_go0 hH rfl (r_runV (As := [.ref (w.1 + (a0 + 1))]) hM hH cv_X8_83 (mX1_remember hLC hM.ns (hLC.ch hg0 (by decide) gch_8_2) (hLC.ch hg0 (by decide) gch_8_0) eM_4) (hLC.in (hLC.ch hg0 (by decide) gch_8_2) (by decide)) (by decide) rfl rfl rfl hl.1 rfl (Nat.le_of_ble_eq_true rfl) ⟨(Nat.le_of_ble_eq_true rfl), (Nat.le_of_ble_eq_true rfl)⟩ ⟨(Nat.le_of_ble_eq_true rfl), (Nat.le_of_ble_eq_true rfl)⟩ dX8_run_31) (fun hp_3 H locs hH => ?_)
      refine lv_aload_n hM.fx.1 hM.fx.2.1 dX8_run_34 rfl (lv_at hl 0 rfl) ?_
      refine r_getR hM.fx hM.kf hH hLC fl_X8_10 hg0 gch_8_0 dX8_run_35 ?_
      refine lv_iload_n hM.fx.1 hM.fx.2.1 dX8_run_38 rfl (lv_at hl 1 rfl) ?_
      obtain ⟨q_6, eq_6, hf⟩ := gbd hf
      refine r_go1 hH rfl (r_runS (As := [.ref (w.1 + (a0 + 1)), .int (gi x1)]) hM hH cs_X8_258 (mX6_advance hLC hM.ns (hLC.ch hg0 (by decide) gch_8_0) hr1 eq_6) rfl hl.1 rfl (Nat.le_of_ble_eq_true rfl) ⟨(Nat.le_of_ble_eq_true rfl), (Nat.le_of_ble_eq_true rfl)⟩ ⟨(Nat.le_of_ble_eq_true rfl), (Nat.le_of_ble_eq_true rfl)⟩ dX8_run_39) (fun hp_5 H locs hH => ?_)
      obtain rfl := Option.some.inj hf
      exact r_iret hM hH (fun z hz => by cases hz; exact hp_5) ⟨(Nat.le_of_ble_eq_true rfl), (Nat.le_of_ble_eq_true rfl)⟩ dX8_run_42
    · have hf := gneg' h_2 hf
      obtain rfl := Option.some.inj hf
      exact r_throwW (i := 33) (text := "turns are 1 to 300") hM hH th_X8_131_135 rfl hl.1 dX8_run_12 dX8_run_15 dX8_run_16 dX8_run_19 dX8_run_22 ⟨(Nat.le_of_ble_eq_true rfl), (Nat.le_of_ble_eq_true rfl), (Nat.le_of_ble_eq_true rfl), (Nat.le_of_ble_eq_true rfl)⟩ ⟨(Nat.le_of_ble_eq_true rfl), (Nat.le_of_ble_eq_true rfl)⟩
def fX8_allow_55 (g : Nat → Nat)  (a4 : Nat) (as0 : Nat) (xs1 : Int) (M : gMem) : Option ((Nat ⊕ Int) × gMem) :=
  gst (gup M as0 6 xs1) fun M_1 => some ((.inr (M_1 a4 6)), M_1)
set_option maxHeartbeats 4000000 in
set_option maxRecDepth 100000 in
theorem wX8_allow_55 {w : gW} {n : Nat} {Rm : Nat → Nat → Nat} {g : Nat → Nat} (hLC : gLC g n Rm) {p : Program} {l : Launch} {e : Env} {s : State} {m : MethodId} {args : Array Value} {below : List Frame} {meth : Method} {c : Code} (hM : gMC w p l s m args meth c cX8_allow 6 RX8 (some .int))  : ∀ (a4 : Nat) (as0 : Nat) (xs1 : Int) (M : gMem) (r : ((Nat ⊕ Int) × gMem)) (hg4 : g a4 = 5) (hgs0 : g as0 = 5) (hrs1 : gRI xs1) (hf : fX8_allow_55 g a4 as0 xs1 M = some r) (H : Heap) (locs : List Loc) (ls : Array Slot) (hH : gH w n Rm M s H locs) (hl : lv_has ls 6 [(4, .ref (w.1 + a4))]), W p l e { frames := 7, cells := 2, slots := 12, locals := 124 } s m args below meth c H locs 2 12 (gQ w n Rm below args s 2 12 (gOcT (fun z => some (.int (gi z))) r.1) r.2 (∀ z, r.1 = .inr z → (gRI z))) (F0 m 55 ls [.int (gi xs1), .ref (w.1 + as0)]) := by
  intro a4 as0 xs1 M r hg4 hgs0 hrs1 hf H locs ls hH hl
  unfold fX8_allow_55 at hf
  refine r_putI hM.fx hM.kf hH fp_X8_160 (hLC.in hgs0 (by decide)) hrs1 dX8_allow_55 (fun H locs hH => ?_)
  obtain ⟨M_1, eM_1, hf⟩ := gst_s hf
  rw [← eM_1] at hH
  refine lv_aload hM.fx.1 hM.fx.2.1 dX8_allow_58 (lv_at hl 0 rfl) ?_
  refine r_getI hM.fx hM.kf hH fl_X8_160 (hLC.in hg4 (by decide)) dX8_allow_60 ?_
  have hr_2 := hH.2.2.i (hLC.in hg4 (by decide)).2.2 (by decide : glg 5 6 = false)
  obtain rfl := Option.some.inj hf
  exact r_iret hM hH (fun z hz => by cases hz; exact hr_2) ⟨(Nat.le_of_ble_eq_true rfl), (Nat.le_of_ble_eq_true rfl)⟩ dX8_allow_63
def fX8_allow (g : Nat → Nat) (a0 : Nat) (x1 : Int) (x2 : Int) (x3 : Int) (M : gMem) : Option ((Nat ⊕ Int) × gMem) :=
  gtry (fX8_existingProc g a0 x1 M) (fun e_2 => some (.inl e_2, M)) fun a_3 => gtry (fX8_checkSlot g a0 x2 M) (fun e_5 => some (.inl e_5, M)) fun u_6 => (fX1_remember g (a0 + 131) (a0 + 1) M).bind fun M_8 => gst (gshl 1 x2) fun x_9 => if x3 = 0 then (fX8_allow_55 g a_3 a_3 (gand (M_8 a_3 6) (gxor x_9 ((-1)))) M_8) else (fX8_allow_55 g a_3 a_3 (gor (M_8 a_3 6) x_9) M_8)
set_option maxHeartbeats 4000000 in
set_option maxRecDepth 100000 in
theorem mX8_allow {w : gW} {n : Nat} {Rm : Nat → Nat → Nat} {g : Nat → Nat} (hLC : gLC g n Rm) {l : Launch} (hl9 : l.stackTraces = false) {a0 : Nat} {x1 : Int} {x2 : Int} {x3 : Int} {M : gMem} {r : ((Nat ⊕ Int) × gMem)} (hg0 : g a0 = 8) (hr1 : gRI x1) (hr2 : gRI x2) (hr3 : gRI x3) (hf : fX8_allow g a0 x1 x2 x3 M = some r) : gMT w n Rm l yX8_allow cX8_allow 6 (some .int) 7 124 2 12 [.ref (w.1 + a0), .int (gi x1), .int (gi x2), .int (gi x3)] M (gOcT (fun z => some (.int (gi z))) r.1) r.2 (∀ z, r.1 = .inr z → (gRI z)) := by
  unfold fX8_allow at hf
  refine gMT.of hl9 (by decide +kernel) ((Nat.le_of_ble_eq_true rfl)) ?_
  intro p e s m below meth c hM hH ls hl
  have hM : gMC w p l s m ([.ref (w.1 + a0), .int (gi x1), .int (gi x2), .int (gi x3)] : List Value).toArray meth c cX8_allow 6 RX8 (some .int) := hM
  have hl : lv_has ls 6 [(0, .ref (w.1 + a0)), (1, .int (gi x1)), (2, .int (gi x2)), (3, .int (gi x3))] := hl
  refine lv_aload_n hM.fx.1 hM.fx.2.1 dX8_allow_0 rfl (lv_at hl 0 rfl) ?_
  refine lv_iload_n hM.fx.1 hM.fx.2.1 dX8_allow_1 rfl (lv_at hl 1 rfl) ?_
  rcases gtry_s hf with ⟨e_2, qe_2, hf⟩ | ⟨a_3, qa_3, hf⟩
  · obtain rfl := Option.some.inj hf
    exact r_goX hM hH rfl (r_runV (As := [.int (gi x1)]) hM hH cv_X8_136 (mX8_existingProc hLC hM.ns hg0 hr1 qe_2) (hLC.in hg0 (by decide)) (by decide) rfl rfl rfl hl.1 rfl (Nat.le_of_ble_eq_true rfl) ⟨(Nat.le_of_ble_eq_true rfl), (Nat.le_of_ble_eq_true rfl)⟩ ⟨(Nat.le_of_ble_eq_true rfl), (Nat.le_of_ble_eq_true rfl)⟩ dX8_allow_2) ⟨(Nat.le_of_ble_eq_true rfl), (Nat.le_of_ble_eq_true rfl)⟩
  refine r_go1 hH rfl (r_runV (As := [.int (gi x1)]) hM hH cv_X8_136 (mX8_existingProc hLC hM.ns hg0 hr1 qa_3) (hLC.in hg0 (by decide)) (by decide) rfl rfl rfl hl.1 rfl (Nat.le_of_ble_eq_true rfl) ⟨(Nat.le_of_ble_eq_true rfl), (Nat.le_of_ble_eq_true rfl)⟩ ⟨(Nat.le_of_ble_eq_true rfl), (Nat.le_of_ble_eq_true rfl)⟩ dX8_allow_2) (fun hp_1 H locs hH => ?_)
  refine lv_astore (lv' := [(4, .ref (w.1 + a_3)), (0, .ref (w.1 + a0)), (1, .int (gi x1)), (2, .int (gi x2)), (3, .int (gi x3))]) hM.fx.1 hM.fx.2.1 dX8_allow_5 hl (by decide) rfl (fun ls hl => ?_)
  refine lv_aload_n hM.fx.1 hM.fx.2.1 dX8_allow_7 rfl (lv_at hl 1 rfl) ?_
  refine lv_iload_n hM.fx.1 hM.fx.2.1 dX8_allow_8 rfl (lv_at hl 3 rfl) ?_
  rcases gtry_s hf with ⟨e_5, qe_5, hf⟩ | ⟨u_6, qu_6, hf⟩
  · obtain rfl := Option.some.inj hf
    exact r_goX hM hH rfl (r_runV (As := [.int (gi x2)]) hM hH cv_X8_200 (mX8_checkSlot hLC hM.ns hg0 hr2 qe_5) (hLC.in hg0 (by decide)) (by decide) rfl rfl rfl hl.1 rfl (Nat.le_of_ble_eq_true rfl) ⟨(Nat.le_of_ble_eq_true rfl), (Nat.le_of_ble_eq_true rfl)⟩ ⟨(Nat.le_of_ble_eq_true rfl), (Nat.le_of_ble_eq_true rfl)⟩ dX8_allow_9) ⟨(Nat.le_of_ble_eq_true rfl), (Nat.le_of_ble_eq_true rfl)⟩
  refine r_go0 hH rfl (r_runV (As := [.int (gi x2)]) hM hH cv_X8_200 (mX8_checkSlot hLC hM.ns hg0 hr2 qu_6) (hLC.in hg0 (by decide)) (by decide) rfl rfl rfl hl.1 rfl (Nat.le_of_ble_eq_true rfl) ⟨(Nat.le_of_ble_eq_true rfl), (Nat.le_of_ble_eq_true rfl)⟩ ⟨(Nat.le_of_ble_eq_true rfl), (Nat.le_of_ble_eq_true rfl)⟩ dX8_allow_9) (fun hp_4 H locs hH => ?_)
  refine lv_aload_n hM.fx.1 hM.fx.2.1 dX8_allow_12 rfl (lv_at hl 1 rfl) ?_
  refine r_getR hM.fx hM.kf hH hLC fl_X8_32 hg0 gch_8_2 dX8_allow_13 ?_
  refine lv_aload_n hM.fx.1 hM.fx.2.1 dX8_allow_16 rfl (lv_at hl 1 rfl) ?_
  refine r_getR hM.fx hM.kf hH hLC fl_X8_10 hg0 gch_8_0 dX8_allow_17 ?_
  obtain ⟨M_8, eM_8, hf⟩ := gbd hf
  refine r_go0 hH rfl (r_runV (As := [.ref (w.1 + (a0 + 1))]) hM hH cv_X8_83 (mX1_remember hLC hM.ns (hLC.ch hg0 (by decide) gch_8_2) (hLC.ch hg0 (by decide) gch_8_0) eM_8) (hLC.in (hLC.ch hg0 (by decide) gch_8_2) (by decide)) (by decide) rfl rfl rfl hl.1 rfl (Nat.le_of_ble_eq_true rfl) ⟨(Nat.le_of_ble_eq_true rfl), (Nat.le_of_ble_eq_true rfl)⟩ ⟨(Nat.le_of_ble_eq_true rfl), (Nat.le_of_ble_eq_true rfl)⟩ dX8_allow_20) (fun hp_7 H locs hH => ?_)
  refine lv_iconst (v := gi (1)) hM.fx.1 hM.fx.2.1 dX8_allow_23 rfl ?_
  refine lv_iload_n hM.fx.1 hM.fx.2.1 dX8_allow_24 rfl (lv_at hl 3 rfl) ?_
  refine r_ishl hM.fx dX8_allow_25 ?_
  obtain ⟨x_9, ex_9, hf⟩ := gst_s hf
  refine W.eq (g2 := F0 m _ ls (.int (gi x_9) :: _)) (by rw [ex_9]) ?_
  have hx_9 : gRI x_9 := by rw [ex_9]; exact (gi_r _)
  refine lv_istore (lv' := [(5, .int (gi x_9)), (4, .ref (w.1 + a_3)), (0, .ref (w.1 + a0)), (1, .int (gi x1)), (2, .int (gi x2)), (3, .int (gi x3))]) hM.fx.1 hM.fx.2.1 dX8_allow_26 hl (by decide) rfl (fun ls hl => ?_)
  refine lv_aload hM.fx.1 hM.fx.2.1 dX8_allow_28 (lv_at hl 1 rfl) ?_
  refine lv_iload_n hM.fx.1 hM.fx.2.1 dX8_allow_30 rfl (lv_at hl 5 rfl) ?_
  refine r_if_eq (tgt := 45) hM.fx hr3 dX8_allow_31 (by decide) (fun h_10 => ?_) (fun h_10 => ?_)
  · have hf := gpos h_10 hf
    refine lv_aload hM.fx.1 hM.fx.2.1 dX8_allow_45 (lv_at hl 1 rfl) ?_
    refine r_getI hM.fx hM.kf hH fl_X8_160 (hLC.in (hp_1 _ rfl) (by decide)) dX8_allow_47 ?_
    have hr_11 := hH.2.2.i (hLC.in (hp_1 _ rfl) (by decide)).2.2 (by decide : glg 5 6 = false)
    refine lv_iload hM.fx.1 hM.fx.2.1 dX8_allow_50 (lv_at hl 0 rfl) ?_
    refine lv_iconst (v := gi (-1)) hM.fx.1 hM.fx.2.1 dX8_allow_52 rfl ?_
    refine r_ixor hM.fx dX8_allow_53 ?_
    refine r_iand hM.fx dX8_allow_54 ?_
    exact wX8_allow_55 hLC hM   _ _ _ _ _ (hp_1 _ rfl) (hp_1 _ rfl) (gi_r _) hf _ _ _ hH (lv_sub hl [1] rfl)
  · have hf := gneg' h_10 hf
    refine lv_aload hM.fx.1 hM.fx.2.1 dX8_allow_34 (lv_at hl 1 rfl) ?_
    refine r_getI hM.fx hM.kf hH fl_X8_160 (hLC.in (hp_1 _ rfl) (by decide)) dX8_allow_36 ?_
    have hr_12 := hH.2.2.i (hLC.in (hp_1 _ rfl) (by decide)).2.2 (by decide : glg 5 6 = false)
    refine lv_iload hM.fx.1 hM.fx.2.1 dX8_allow_39 (lv_at hl 0 rfl) ?_
    refine r_ior hM.fx dX8_allow_41 ?_
    refine lv_goto (tgt := 55) hM.fx.1 hM.fx.2.1 dX8_allow_42 (by decide) ?_
    exact wX8_allow_55 hLC hM   _ _ _ _ _ (hp_1 _ rfl) (hp_1 _ rfl) (gi_r _) hf _ _ _ hH (lv_sub hl [1] rfl)
def fX8_setTurn (g : Nat → Nat) (a0 : Nat) (x1 : Int) (x2 : Int) (M : gMem) : Option ((Nat ⊕ Int) × gMem) :=
  gtry (fX8_existingProc g a0 x1 M) (fun e_2 => some (.inl e_2, M)) fun a_3 => if x2 < 1 then (some (.inl 2, M)) else (if x2 ≤ 9 then ((fX1_remember g (a0 + 131) (a0 + 1) M).bind fun M_7 => gst (M_7 a_3 5) fun x_9 => gst (gup M_7 a_3 5 x2) fun M_10 => some ((.inr x_9), M_10)) else (some (.inl 2, M)))
set_option maxHeartbeats 4000000 in
set_option maxRecDepth 100000 in
theorem mX8_setTurn {w : gW} {n : Nat} {Rm : Nat → Nat → Nat} {g : Nat → Nat} (hLC : gLC g n Rm) {l : Launch} (hl9 : l.stackTraces = false) {a0 : Nat} {x1 : Int} {x2 : Int} {M : gMem} {r : ((Nat ⊕ Int) × gMem)} (hg0 : g a0 = 8) (hr1 : gRI x1) (hr2 : gRI x2) (hf : fX8_setTurn g a0 x1 x2 M = some r) : gMT w n Rm l yX8_setTurn cX8_setTurn 5 (some .int) 7 124 2 12 [.ref (w.1 + a0), .int (gi x1), .int (gi x2)] M (gOcT (fun z => some (.int (gi z))) r.1) r.2 (∀ z, r.1 = .inr z → (gRI z)) := by
  unfold fX8_setTurn at hf
  refine gMT.of hl9 (by decide +kernel) ((Nat.le_of_ble_eq_true rfl)) ?_
  intro p e s m below meth c hM hH ls hl
  have hM : gMC w p l s m ([.ref (w.1 + a0), .int (gi x1), .int (gi x2)] : List Value).toArray meth c cX8_setTurn 5 RX8 (some .int) := hM
  have hl : lv_has ls 5 [(0, .ref (w.1 + a0)), (1, .int (gi x1)), (2, .int (gi x2))] := hl
  refine lv_aload_n hM.fx.1 hM.fx.2.1 dX8_setTurn_0 rfl (lv_at hl 0 rfl) ?_
  refine lv_iload_n hM.fx.1 hM.fx.2.1 dX8_setTurn_1 rfl (lv_at hl 1 rfl) ?_
  rcases gtry_s hf with ⟨e_2, qe_2, hf⟩ | ⟨a_3, qa_3, hf⟩
  · obtain rfl := Option.some.inj hf
    exact r_goX hM hH rfl (r_runV (As := [.int (gi x1)]) hM hH cv_X8_136 (mX8_existingProc hLC hM.ns hg0 hr1 qe_2) (hLC.in hg0 (by decide)) (by decide) rfl rfl rfl hl.1 rfl (Nat.le_of_ble_eq_true rfl) ⟨(Nat.le_of_ble_eq_true rfl), (Nat.le_of_ble_eq_true rfl)⟩ ⟨(Nat.le_of_ble_eq_true rfl), (Nat.le_of_ble_eq_true rfl)⟩ dX8_setTurn_2) ⟨(Nat.le_of_ble_eq_true rfl), (Nat.le_of_ble_eq_true rfl)⟩
  refine r_go1 hH rfl (r_runV (As := [.int (gi x1)]) hM hH cv_X8_136 (mX8_existingProc hLC hM.ns hg0 hr1 qa_3) (hLC.in hg0 (by decide)) (by decide) rfl rfl rfl hl.1 rfl (Nat.le_of_ble_eq_true rfl) ⟨(Nat.le_of_ble_eq_true rfl), (Nat.le_of_ble_eq_true rfl)⟩ ⟨(Nat.le_of_ble_eq_true rfl), (Nat.le_of_ble_eq_true rfl)⟩ dX8_setTurn_2) (fun hp_1 H locs hH => ?_)
  refine lv_astore_n (lv' := [(3, .ref (w.1 + a_3)), (0, .ref (w.1 + a0)), (1, .int (gi x1)), (2, .int (gi x2))]) hM.fx.1 hM.fx.2.1 dX8_setTurn_5 rfl hl (by decide) rfl (fun ls hl => ?_)
  refine lv_iload_n hM.fx.1 hM.fx.2.1 dX8_setTurn_6 rfl (lv_at hl 3 rfl) ?_
  refine lv_iconst (v := gi (1)) hM.fx.1 hM.fx.2.1 dX8_setTurn_7 rfl ?_
  refine r_icmp_lt (tgt := 17) hM.fx hr2 (gcR (k := 1) (by decide)) dX8_setTurn_8 (by decide) (fun h_4 => ?_) (fun h_4 => ?_)
  · have hf := gpos h_4 hf
    obtain rfl := Option.some.inj hf
    exact r_throwW (i := 34) (text := "a turn has 1 to 9 steps") hM hH th_X8_131_135 rfl hl.1 dX8_setTurn_17 dX8_setTurn_20 dX8_setTurn_21 dX8_setTurn_24 dX8_setTurn_27 ⟨(Nat.le_of_ble_eq_true rfl), (Nat.le_of_ble_eq_true rfl), (Nat.le_of_ble_eq_true rfl), (Nat.le_of_ble_eq_true rfl)⟩ ⟨(Nat.le_of_ble_eq_true rfl), (Nat.le_of_ble_eq_true rfl)⟩
  · have hf := gneg' h_4 hf
    refine lv_iload_n hM.fx.1 hM.fx.2.1 dX8_setTurn_11 rfl (lv_at hl 3 rfl) ?_
    refine lv_bipush (v := gi (9)) hM.fx.1 hM.fx.2.1 dX8_setTurn_12 (by decide) ?_
    refine r_icmp_le (tgt := 28) hM.fx hr2 (gcR (k := 9) (by decide)) dX8_setTurn_14 (by decide) (fun h_5 => ?_) (fun h_5 => ?_)
    · have hf := gpos h_5 hf
      refine lv_aload_n hM.fx.1 hM.fx.2.1 dX8_setTurn_28 rfl (lv_at hl 1 rfl) ?_
      refine r_getR hM.fx hM.kf hH hLC fl_X8_32 hg0 gch_8_2 dX8_setTurn_29 ?_
      refine lv_aload_n hM.fx.1 hM.fx.2.1 dX8_setTurn_32 rfl (lv_at hl 1 rfl) ?_
      refine r_getR hM.fx hM.kf hH hLC fl_X8_10 hg0 gch_8_0 dX8_setTurn_33 ?_
      obtain ⟨M_7, eM_7, hf⟩ := gbd hf
      refine r_go0 hH rfl (r_runV (As := [.ref (w.1 + (a0 + 1))]) hM hH cv_X8_83 (mX1_remember hLC hM.ns (hLC.ch hg0 (by decide) gch_8_2) (hLC.ch hg0 (by decide) gch_8_0) eM_7) (hLC.in (hLC.ch hg0 (by decide) gch_8_2) (by decide)) (by decide) rfl rfl rfl hl.1 rfl (Nat.le_of_ble_eq_true rfl) ⟨(Nat.le_of_ble_eq_true rfl), (Nat.le_of_ble_eq_true rfl)⟩ ⟨(Nat.le_of_ble_eq_true rfl), (Nat.le_of_ble_eq_true rfl)⟩ dX8_setTurn_36) (fun hp_6 H locs hH => ?_)
      refine lv_aload_n hM.fx.1 hM.fx.2.1 dX8_setTurn_39 rfl (lv_at hl 0 rfl) ?_
      refine r_getI hM.fx hM.kf hH fl_X8_157 (hLC.in (hp_1 _ rfl) (by decide)) dX8_setTurn_40 ?_
      have hr_8 := hH.2.2.i (hLC.in (hp_1 _ rfl) (by decide)).2.2 (by decide : glg 5 5 = false)
      obtain ⟨x_9, ex_9, hf⟩ := gst_s hf
      refine W.eq (g2 := F0 m _ ls (.int (gi x_9) :: _)) (by rw [ex_9]) ?_
      have hx_9 : gRI x_9 := by rw [ex_9]; exact hr_8
      refine lv_istore (lv' := [(4, .int (gi x_9)), (3, .ref (w.1 + a_3)), (0, .ref (w.1 + a0)), (1, .int (gi x1)), (2, .int (gi x2))]) hM.fx.1 hM.fx.2.1 dX8_setTurn_43 hl (by decide) rfl (fun ls hl => ?_)
      refine lv_aload_n hM.fx.1 hM.fx.2.1 dX8_setTurn_45 rfl (lv_at hl 1 rfl) ?_
      refine lv_iload_n hM.fx.1 hM.fx.2.1 dX8_setTurn_46 rfl (lv_at hl 4 rfl) ?_
      refine r_putI hM.fx hM.kf hH fp_X8_157 (hLC.in (hp_1 _ rfl) (by decide)) hr2 dX8_setTurn_47 (fun H locs hH => ?_)
      obtain ⟨M_10, eM_10, hf⟩ := gst_s hf
      rw [← eM_10] at hH
      refine lv_iload hM.fx.1 hM.fx.2.1 dX8_setTurn_50 (lv_at hl 0 rfl) ?_
      obtain rfl := Option.some.inj hf
      exact r_iret hM hH (fun z hz => by cases hz; exact hx_9) ⟨(Nat.le_of_ble_eq_true rfl), (Nat.le_of_ble_eq_true rfl)⟩ dX8_setTurn_52
    · have hf := gneg' h_5 hf
      obtain rfl := Option.some.inj hf
      exact r_throwW (i := 34) (text := "a turn has 1 to 9 steps") hM hH th_X8_131_135 rfl hl.1 dX8_setTurn_17 dX8_setTurn_20 dX8_setTurn_21 dX8_setTurn_24 dX8_setTurn_27 ⟨(Nat.le_of_ble_eq_true rfl), (Nat.le_of_ble_eq_true rfl), (Nat.le_of_ble_eq_true rfl), (Nat.le_of_ble_eq_true rfl)⟩ ⟨(Nat.le_of_ble_eq_true rfl), (Nat.le_of_ble_eq_true rfl)⟩
