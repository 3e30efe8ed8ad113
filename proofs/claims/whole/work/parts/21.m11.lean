def fX9_hasCommand_44 (g : Nat → Nat) (k3 : Nat → Int → Int → Int → Int → gMem → Option Int) (a0 : Nat) (x1 : Int) (x2 : Int) (x3 : Int) (x4 : Int) (M : gMem) : Option Int :=
  gst (gwi (x4 + 1)) fun x_1 => k3 a0 x1 x2 x3 x_1 M
set_option maxHeartbeats 4000000 in
set_option maxRecDepth 100000 in
theorem wX9_hasCommand_44 {w : gW} {n : Nat} {Rm : Nat → Nat → Nat} {g : Nat → Nat} (hLC : gLC g n Rm) {p : Program} {l : Launch} {e : Env} {s : State} {m : MethodId} {args : Array Value} {below : List Frame} {meth : Method} {c : Code} (hM : gMC w p l s m args meth c cX9_hasCommand 5 RX9 (some .boolean)) (k3 : Nat → Int → Int → Int → Int → gMem → Option Int) (hk3 : ∀ (a0 : Nat) (x1 : Int) (x2 : Int) (x3 : Int) (x4 : Int) (M : gMem) (r : Int) (hg0 : g a0 = 9) (hr1 : gRI x1) (hr2 : gRI x2) (hr3 : gRI x3) (hr4 : gRI x4) (hf : k3 a0 x1 x2 x3 x4 M = some r) (H : Heap) (locs : List Loc) (ls : Array Slot) (hH : gH w n Rm M s H locs) (hl : lv_has ls 5 [(0, .ref (w.1 + a0)), (1, .int (gi x1)), (2, .int (gi x2)), (3, .int (gi x3)), (4, .int (gi x4))]), W p l e { frames := 2, cells := 0, slots := 0, locals := 82 } s m args below meth c H locs 0 0 (gQ w n Rm below args s 0 0 (.inr (some (.int (gi r)))) M (r = 0 ∨ r = 1)) (F0 m 3 ls [])) : ∀ (a0 : Nat) (x1 : Int) (x2 : Int) (x3 : Int) (x4 : Int) (M : gMem) (r : Int) (hg0 : g a0 = 9) (hr1 : gRI x1) (hr2 : gRI x2) (hr3 : gRI x3) (hr4 : gRI x4) (hf : fX9_hasCommand_44 g k3 a0 x1 x2 x3 x4 M = some r) (H : Heap) (locs : List Loc) (ls : Array Slot) (hH : gH w n Rm M s H locs) (hl : lv_has ls 5 [(0, .ref (w.1 + a0)), (1, .int (gi x1)), (2, .int (gi x2)), (3, .int (gi x3)), (4, .int (gi x4))]), W p l e { frames := 2, cells := 0, slots := 0, locals := 82 } s m args below meth c H locs 0 0 (gQ w n Rm below args s 0 0 (.inr (some (.int (gi r)))) M (r = 0 ∨ r = 1)) (F0 m 44 ls []) := by
  intro a0 x1 x2 x3 x4 M r hg0 hr1 hr2 hr3 hr4 hf H locs ls hH hl
  unfold fX9_hasCommand_44 at hf
  obtain ⟨x_1, ex_1, hf⟩ := gst_s hf
  have hx_1 : gRI x_1 := by rw [ex_1]; exact gwi_r _
  refine r_iinc (lv' := [(4, .int (gi x_1)), (0, .ref (w.1 + a0)), (1, .int (gi x1)), (2, .int (gi x2)), (3, .int (gi x3))]) hM.fx dX9_hasCommand_44 hl (k := 4) rfl (by decide) (by rw [ex_1]; rfl) (fun ls hl => ?_)
  refine lv_goto (tgt := 3) hM.fx.1 hM.fx.2.1 dX9_hasCommand_47 (by decide) ?_
  exact hk3 _ _ _ _ _ _ _ hg0 hr1 hr2 hr3 hx_1 hf _ _ _ hH (lv_sub hl [1, 2, 3, 4, 0] rfl)
def fX9_hasCommand_3 (g : Nat → Nat)  : Nat → Nat → Int → Int → Int → Int → gMem → Option Int
  | 0, _, _, _, _, _, _ => none
  | fu + 1, a0, x1, x2, x3, x4, M => (fX9_of g a0 x1 3 M).bind fun x_2 => if x_2 ≤ x4 then (some 0) else ((fX9_of g a0 x1 (gwi (18 + x4)) M).bind fun x_5 => if x_5 = x2 then ((fX9_of g a0 x1 (gwi (42 + x4)) M).bind fun x_8 => if x_8 = x3 then (some 1) else (fX9_hasCommand_44 g (fX9_hasCommand_3 g fu) a0 x1 x2 x3 x4 M)) else (fX9_hasCommand_44 g (fX9_hasCommand_3 g fu) a0 x1 x2 x3 x4 M))
set_option maxHeartbeats 4000000 in
set_option maxRecDepth 100000 in
theorem wX9_hasCommand_3 {w : gW} {n : Nat} {Rm : Nat → Nat → Nat} {g : Nat → Nat} (hLC : gLC g n Rm) {p : Program} {l : Launch} {e : Env} {s : State} {m : MethodId} {args : Array Value} {below : List Frame} {meth : Method} {c : Code} (hM : gMC w p l s m args meth c cX9_hasCommand 5 RX9 (some .boolean))  : ∀ (fu : Nat), ∀ (a0 : Nat) (x1 : Int) (x2 : Int) (x3 : Int) (x4 : Int) (M : gMem) (r : Int) (hg0 : g a0 = 9) (hr1 : gRI x1) (hr2 : gRI x2) (hr3 : gRI x3) (hr4 : gRI x4) (hf : fX9_hasCommand_3 g fu a0 x1 x2 x3 x4 M = some r) (H : Heap) (locs : List Loc) (ls : Array Slot) (hH : gH w n Rm M s H locs) (hl : lv_has ls 5 [(0, .ref (w.1 + a0)), (1, .int (gi x1)), (2, .int (gi x2)), (3, .int (gi x3)), (4, .int (gi x4))]), W p l e { frames := 2, cells := 0, slots := 0, locals := 82 } s m args below meth c H locs 0 0 (gQ w n Rm below args s 0 0 (.inr (some (.int (gi r)))) M (r = 0 ∨ r = 1)) (F0 m 3 ls []) := by
  intro fu
  induction fu with
  | zero =>
    intro a0 x1 x2 x3 x4 M r hg0 hr1 hr2 hr3 hr4 hf H locs ls hH hl
    exact absurd hf (by simp [fX9_hasCommand_3])
  | succ fu ih =>
    intro a0 x1 x2 x3 x4 M r hg0 hr1 hr2 hr3 hr4 hf H locs ls hH hl
    unfold fX9_hasCommand_3 at hf
    refine lv_iload hM.fx.1 hM.fx.2.1 dX9_hasCommand_3 (lv_at hl 4 rfl) ?_
    refine lv_aload_n hM.fx.1 hM.fx.2.1 dX9_hasCommand_5 rfl (lv_at hl 0 rfl) ?_
    refine lv_iload_n hM.fx.1 hM.fx.2.1 dX9_hasCommand_6 rfl (lv_at hl 1 rfl) ?_
    refine lv_iconst (v := gi (3)) hM.fx.1 hM.fx.2.1 dX9_hasCommand_7 rfl ?_
    obtain ⟨x_2, ex_2, hf⟩ := gbd hf
    refine r_go1 hH rfl (r_runV (As := [.int (gi x1), .int (gi 3)]) hM hH cv_X9_135 (mX9_of hLC hM.ns hg0 hr1 (gcR (k := 3) (by decide)) ex_2) (hLC.in hg0 (by decide)) (by decide) rfl rfl rfl hl.1 rfl (Nat.le_of_ble_eq_true rfl) ⟨(Nat.le_of_ble_eq_true rfl), (Nat.le_of_ble_eq_true rfl)⟩ ⟨(Nat.le_of_ble_eq_true rfl), (Nat.le_of_ble_eq_true rfl)⟩ dX9_hasCommand_8) (fun hp_1 H locs hH => ?_)
    refine r_icmp_ge (tgt := 50) hM.fx hr4 hp_1 dX9_hasCommand_11 (by decide) (fun h_3 => ?_) (fun h_3 => ?_)
    · have hf := gpos h_3 hf
      refine lv_iconst (v := gi (0)) hM.fx.1 hM.fx.2.1 dX9_hasCommand_50 rfl ?_
      obtain rfl := Option.some.inj hf
      exact r_zret hM hH (Or.inl rfl) (Or.inl rfl) ⟨(Nat.le_of_ble_eq_true rfl), (Nat.le_of_ble_eq_true rfl)⟩ dX9_hasCommand_51
    · have hf := gneg' h_3 hf
      refine lv_aload_n hM.fx.1 hM.fx.2.1 dX9_hasCommand_14 rfl (lv_at hl 0 rfl) ?_
      refine lv_iload_n hM.fx.1 hM.fx.2.1 dX9_hasCommand_15 rfl (lv_at hl 1 rfl) ?_
      refine lv_bipush (v := gi (18)) hM.fx.1 hM.fx.2.1 dX9_hasCommand_16 (by decide) ?_
      refine lv_iload hM.fx.1 hM.fx.2.1 dX9_hasCommand_18 (lv_at hl 4 rfl) ?_
      refine r_iadd hM.fx dX9_hasCommand_20 ?_
      obtain ⟨x_5, ex_5, hf⟩ := gbd hf
      refine r_go1 hH rfl (r_runV (As := [.int (gi x1), .int (gi (gwi (18 + x4)))]) hM hH cv_X9_135 (mX9_of hLC hM.ns hg0 hr1 (gwi_r _) ex_5) (hLC.in hg0 (by decide)) (by decide) rfl rfl rfl hl.1 rfl (Nat.le_of_ble_eq_true rfl) ⟨(Nat.le_of_ble_eq_true rfl), (Nat.le_of_ble_eq_true rfl)⟩ ⟨(Nat.le_of_ble_eq_true rfl), (Nat.le_of_ble_eq_true rfl)⟩ dX9_hasCommand_21) (fun hp_4 H locs hH => ?_)
      refine lv_iload_n hM.fx.1 hM.fx.2.1 dX9_hasCommand_24 rfl (lv_at hl 2 rfl) ?_
      refine r_icmp_ne (tgt := 44) hM.fx hp_4 hr2 dX9_hasCommand_25 (by decide) (fun h_6 => ?_) (fun h_6 => ?_)
      · have hf := gneg' h_6 hf
        exact wX9_hasCommand_44 hLC hM (fX9_hasCommand_3 g fu) ih  _ _ _ _ _ _ _ hg0 hr1 hr2 hr3 hr4 hf _ _ _ hH hl
      · have hf := gpos h_6 hf
        refine lv_aload_n hM.fx.1 hM.fx.2.1 dX9_hasCommand_28 rfl (lv_at hl 0 rfl) ?_
        refine lv_iload_n hM.fx.1 hM.fx.2.1 dX9_hasCommand_29 rfl (lv_at hl 1 rfl) ?_
        refine lv_bipush (v := gi (42)) hM.fx.1 hM.fx.2.1 dX9_hasCommand_30 (by decide) ?_
        refine lv_iload hM.fx.1 hM.fx.2.1 dX9_hasCommand_32 (lv_at hl 4 rfl) ?_
        refine r_iadd hM.fx dX9_hasCommand_34 ?_
        obtain ⟨x_8, ex_8, hf⟩ := gbd hf
        refine r_go1 hH rfl (r_runV (As := [.int (gi x1), .int (gi (gwi (42 + x4)))]) hM hH cv_X9_135 (mX9_of hLC hM.ns hg0 hr1 (gwi_r _) ex_8) (hLC.in hg0 (by decide)) (by decide) rfl rfl rfl hl.1 rfl (Nat.le_of_ble_eq_true rfl) ⟨(Nat.le_of_ble_eq_true rfl), (Nat.le_of_ble_eq_true rfl)⟩ ⟨(Nat.le_of_ble_eq_true rfl), (Nat.le_of_ble_eq_true rfl)⟩ dX9_hasCommand_35) (fun hp_7 H locs hH => ?_)
        refine lv_iload_n hM.fx.1 hM.fx.2.1 dX9_hasCommand_38 rfl (lv_at hl 3 rfl) ?_
        refine r_icmp_ne (tgt := 44) hM.fx hp_7 hr3 dX9_hasCommand_39 (by decide) (fun h_9 => ?_) (fun h_9 => ?_)
        · have hf := gneg' h_9 hf
          exact wX9_hasCommand_44 hLC hM (fX9_hasCommand_3 g fu) ih  _ _ _ _ _ _ _ hg0 hr1 hr2 hr3 hr4 hf _ _ _ hH hl
        · have hf := gpos h_9 hf
          refine lv_iconst (v := gi (1)) hM.fx.1 hM.fx.2.1 dX9_hasCommand_42 rfl ?_
          obtain rfl := Option.some.inj hf
          exact r_zret hM hH (Or.inr rfl) (Or.inr rfl) ⟨(Nat.le_of_ble_eq_true rfl), (Nat.le_of_ble_eq_true rfl)⟩ dX9_hasCommand_43
def fX9_hasCommand (g : Nat → Nat) (a0 : Nat) (x1 : Int) (x2 : Int) (x3 : Int) (M : gMem) : Option Int :=
  fX9_hasCommand_3 g gF a0 x1 x2 x3 0 M
set_option maxHeartbeats 4000000 in
set_option maxRecDepth 100000 in
theorem mX9_hasCommand {w : gW} {n : Nat} {Rm : Nat → Nat → Nat} {g : Nat → Nat} (hLC : gLC g n Rm) {l : Launch} (hl9 : l.stackTraces = false) {a0 : Nat} {x1 : Int} {x2 : Int} {x3 : Int} {M : gMem} {r : Int} (hg0 : g a0 = 9) (hr1 : gRI x1) (hr2 : gRI x2) (hr3 : gRI x3) (hf : fX9_hasCommand g a0 x1 x2 x3 M = some r) : gMT w n Rm l yX9_hasCommand cX9_hasCommand 5 (some .boolean) 2 82 0 0 [.ref (w.1 + a0), .int (gi x1), .int (gi x2), .int (gi x3)] M (.inr (some (.int (gi r)))) M (r = 0 ∨ r = 1) := by
  unfold fX9_hasCommand at hf
  refine gMT.of hl9 (by decide +kernel) ((Nat.le_of_ble_eq_true rfl)) ?_
  intro p e s m below meth c hM hH ls hl
  have hM : gMC w p l s m ([.ref (w.1 + a0), .int (gi x1), .int (gi x2), .int (gi x3)] : List Value).toArray meth c cX9_hasCommand 5 RX9 (some .boolean) := hM
  have hl : lv_has ls 5 [(0, .ref (w.1 + a0)), (1, .int (gi x1)), (2, .int (gi x2)), (3, .int (gi x3))] := hl
  refine lv_iconst (v := gi (0)) hM.fx.1 hM.fx.2.1 dX9_hasCommand_0 rfl ?_
  refine lv_istore (lv' := [(4, .int (gi 0)), (0, .ref (w.1 + a0)), (1, .int (gi x1)), (2, .int (gi x2)), (3, .int (gi x3))]) hM.fx.1 hM.fx.2.1 dX9_hasCommand_1 hl (by decide) rfl (fun ls hl => ?_)
  exact wX9_hasCommand_3 hLC hM  gF _ _ _ _ _ _ _ hg0 hr1 hr2 hr3 (gcR (k := 0) (by decide)) hf _ _ _ hH (lv_sub hl [1, 2, 3, 4, 0] rfl)
def fX9_helpers_128 (g : Nat → Nat) (k72 : Nat → Int → Int → Int → Int → Int → gMem → Option (Int × gMem)) (a0 : Nat) (x1 : Int) (x2 : Int) (x3 : Int) (x4 : Int) (x5 : Int) (M : gMem) : Option (Int × gMem) :=
  gst (gwi (x5 + 1)) fun x_1 => k72 a0 x1 x2 x3 x4 x_1 M
set_option maxHeartbeats 4000000 in
set_option maxRecDepth 100000 in
theorem wX9_helpers_128 {w : gW} {n : Nat} {Rm : Nat → Nat → Nat} {g : Nat → Nat} (hLC : gLC g n Rm) {p : Program} {l : Launch} {e : Env} {s : State} {m : MethodId} {args : Array Value} {below : List Frame} {meth : Method} {c : Code} (hM : gMC w p l s m args meth c cX9_helpers 6 RX9 (some .int)) (k72 : Nat → Int → Int → Int → Int → Int → gMem → Option (Int × gMem)) (hk72 : ∀ (a0 : Nat) (x1 : Int) (x2 : Int) (x3 : Int) (x4 : Int) (x5 : Int) (M : gMem) (r : (Int × gMem)) (hg0 : g a0 = 9) (hr1 : gRI x1) (hr2 : gRI x2) (hr3 : gRI x3) (hr4 : gRI x4) (hr5 : gRI x5) (hf : k72 a0 x1 x2 x3 x4 x5 M = some r) (H : Heap) (locs : List Loc) (ls : Array Slot) (hH : gH w n Rm M s H locs) (hl : lv_has ls 6 [(0, .ref (w.1 + a0)), (1, .int (gi x1)), (2, .int (gi x2)), (3, .int (gi x3)), (4, .int (gi x4)), (5, .int (gi x5))]), W p l e { frames := 6, cells := 0, slots := 0, locals := 177 } s m args below meth c H locs 0 0 (gQ w n Rm below args s 0 0 (.inr (some (.int (gi r.1)))) r.2 (gRI r.1)) (F0 m 72 ls [])) : ∀ (a0 : Nat) (x1 : Int) (x2 : Int) (x3 : Int) (x4 : Int) (x5 : Int) (M : gMem) (r : (Int × gMem)) (hg0 : g a0 = 9) (hr1 : gRI x1) (hr2 : gRI x2) (hr3 : gRI x3) (hr4 : gRI x4) (hr5 : gRI x5) (hf : fX9_helpers_128 g k72 a0 x1 x2 x3 x4 x5 M = some r) (H : Heap) (locs : List Loc) (ls : Array Slot) (hH : gH w n Rm M s H locs) (hl : lv_has ls 6 [(0, .ref (w.1 + a0)), (1, .int (gi x1)), (2, .int (gi x2)), (3, .int (gi x3)), (4, .int (gi x4)), (5, .int (gi x5))]), W p l e { frames := 6, cells := 0, slots := 0, locals := 177 } s m args below meth c H locs 0 0 (gQ w n Rm below args s 0 0 (.inr (some (.int (gi r.1)))) r.2 (gRI r.1)) (F0 m 128 ls []) := by
  intro a0 x1 x2 x3 x4 x5 M r hg0 hr1 hr2 hr3 hr4 hr5 hf H locs ls hH hl
  unfold fX9_helpers_128 at hf
  obtain ⟨x_1, ex_1, hf⟩ := gst_s hf
  have hx_1 : gRI x_1 := by rw [ex_1]; exact gwi_r _
  refine r_iinc (lv' := [(5, .int (gi x_1)), (0, .ref (w.1 + a0)), (1, .int (gi x1)), (2, .int (gi x2)), (3, .int (gi x3)), (4, .int (gi x4))]) hM.fx dX9_helpers_128 hl (k := 5) rfl (by decide) (by rw [ex_1]; rfl) (fun ls hl => ?_)
  refine lv_goto (tgt := 72) hM.fx.1 hM.fx.2.1 dX9_helpers_131 (by decide) ?_
  exact hk72 _ _ _ _ _ _ _ _ hg0 hr1 hr2 hr3 hr4 hx_1 hf _ _ _ hH (lv_sub hl [1, 2, 3, 4, 5, 0] rfl)
def fX9_helpers_72 (g : Nat → Nat)  : Nat → Nat → Int → Int → Int → Int → Int → gMem → Option (Int × gMem)
  | 0, _, _, _, _, _, _, _ => none
  | fu + 1, a0, x1, x2, x3, x4, x5, M => if (0 : Int) ≤ 1 ∧ (1 : Int) < 1190 then if M (a0 + 1) (1 : Int).toNat ≤ x5 then (some (x4, M)) else (if x5 = x1 then (fX9_helpers_128 g (fX9_helpers_72 g fu) a0 x1 x2 x3 x4 x5 M) else ((fX9_isReady g a0 x5 M).bind fun x_6 => if x_6 = 0 then (fX9_helpers_128 g (fX9_helpers_72 g fu) a0 x1 x2 x3 x4 x5 M) else ((fX9_mayUse g a0 x5 x2 M).bind fun x_9 => if x_9 = 0 then (fX9_helpers_128 g (fX9_helpers_72 g fu) a0 x1 x2 x3 x4 x5 M) else ((fX9_hasCommand g a0 x5 x3 x2 M).bind fun x_12 => if x_12 = 0 then (fX9_helpers_128 g (fX9_helpers_72 g fu) a0 x1 x2 x3 x4 x5 M) else (gst (gor x4 (gshl 1 x5)) fun x_14 => fX9_helpers_128 g (fX9_helpers_72 g fu) a0 x1 x2 x3 x_14 x5 M))))) else none
set_option maxHeartbeats 4000000 in
set_option maxRecDepth 100000 in
theorem wX9_helpers_72 {w : gW} {n : Nat} {Rm : Nat → Nat → Nat} {g : Nat → Nat} (hLC : gLC g n Rm) {p : Program} {l : Launch} {e : Env} {s : State} {m : MethodId} {args : Array Value} {below : List Frame} {meth : Method} {c : Code} (hM : gMC w p l s m args meth c cX9_helpers 6 RX9 (some .int))  : ∀ (fu : Nat), ∀ (a0 : Nat) (x1 : Int) (x2 : Int) (x3 : Int) (x4 : Int) (x5 : Int) (M : gMem) (r : (Int × gMem)) (hg0 : g a0 = 9) (hr1 : gRI x1) (hr2 : gRI x2) (hr3 : gRI x3) (hr4 : gRI x4) (hr5 : gRI x5) (hf : fX9_helpers_72 g fu a0 x1 x2 x3 x4 x5 M = some r) (H : Heap) (locs : List Loc) (ls : Array Slot) (hH : gH w n Rm M s H locs) (hl : lv_has ls 6 [(0, .ref (w.1 + a0)), (1, .int (gi x1)), (2, .int (gi x2)), (3, .int (gi x3)), (4, .int (gi x4)), (5, .int (gi x5))]), W p l e { frames := 6, cells := 0, slots := 0, locals := 177 } s m args below meth c H locs 0 0 (gQ w n Rm below args s 0 0 (.inr (some (.int (gi r.1)))) r.2 (gRI r.1)) (F0 m 72 ls []) := by
  intro fu
  induction fu with
  | zero =>
    intro a0 x1 x2 x3 x4 x5 M r hg0 hr1 hr2 hr3 hr4 hr5 hf H locs ls hH hl
    exact absurd hf (by simp [fX9_helpers_72])
  | succ fu ih =>
    intro a0 x1 x2 x3 x4 x5 M r hg0 hr1 hr2 hr3 hr4 hr5 hf H locs ls hH hl
    unfold fX9_helpers_72 at hf
    refine lv_iload hM.fx.1 hM.fx.2.1 dX9_helpers_72 (lv_at hl 5 rfl) ?_
    refine lv_aload_n hM.fx.1 hM.fx.2.1 dX9_helpers_74 rfl (lv_at hl 0 rfl) ?_
    refine r_getR hM.fx hM.kf hH hLC fl_X9_7 hg0 gch_9_0 dX9_helpers_75 ?_
    refine lv_iconst (v := gi (1)) hM.fx.1 hM.fx.2.1 dX9_helpers_78 rfl ?_
    obtain ⟨g_1, hf⟩ := gif hf
    refine r_iald hM.fx hM.kf hH (hLC.in (hLC.ch hg0 (by decide) gch_9_0) (by decide)) (⟨by decide, by decide⟩ : gAr 19056 0) (gcR (k := 1) (by decide)) g_1 dX9_helpers_79 ?_
    have hr_2 := hH.2.2.i (k := (1 : Int).toNat) (hLC.in (hLC.ch hg0 (by decide) gch_9_0) (by decide)).2.2 (glg_a (⟨by decide, by decide⟩ : gAr 19056 0))
    refine r_icmp_ge (tgt := 134) hM.fx hr5 hr_2 dX9_helpers_80 (by decide) (fun h_3 => ?_) (fun h_3 => ?_)
    · have hf := gpos h_3 hf
      refine lv_iload hM.fx.1 hM.fx.2.1 dX9_helpers_134 (lv_at hl 4 rfl) ?_
      obtain rfl := Option.some.inj hf
      exact r_iret hM hH hr4 ⟨(Nat.le_of_ble_eq_true rfl), (Nat.le_of_ble_eq_true rfl)⟩ dX9_helpers_136
    · have hf := gneg' h_3 hf
      refine lv_iload hM.fx.1 hM.fx.2.1 dX9_helpers_83 (lv_at hl 5 rfl) ?_
      refine lv_iload_n hM.fx.1 hM.fx.2.1 dX9_helpers_85 rfl (lv_at hl 1 rfl) ?_
      refine r_icmp_eq (tgt := 128) hM.fx hr5 hr1 dX9_helpers_86 (by decide) (fun h_4 => ?_) (fun h_4 => ?_)
      · have hf := gpos h_4 hf
        exact wX9_helpers_128 hLC hM (fX9_helpers_72 g fu) ih  _ _ _ _ _ _ _ _ hg0 hr1 hr2 hr3 hr4 hr5 hf _ _ _ hH hl
      · have hf := gneg' h_4 hf
        refine lv_aload_n hM.fx.1 hM.fx.2.1 dX9_helpers_89 rfl (lv_at hl 0 rfl) ?_
        refine lv_iload hM.fx.1 hM.fx.2.1 dX9_helpers_90 (lv_at hl 5 rfl) ?_
        obtain ⟨x_6, ex_6, hf⟩ := gbd hf
        refine r_go1 hH rfl (r_runV (As := [.int (gi x5)]) hM hH cv_X9_252 (mX9_isReady hLC hM.ns hg0 hr5 ex_6) (hLC.in hg0 (by decide)) (by decide) rfl rfl rfl hl.1 rfl (Nat.le_of_ble_eq_true rfl) ⟨(Nat.le_of_ble_eq_true rfl), (Nat.le_of_ble_eq_true rfl)⟩ ⟨(Nat.le_of_ble_eq_true rfl), (Nat.le_of_ble_eq_true rfl)⟩ dX9_helpers_92) (fun hp_5 H locs hH => ?_)
        refine r_if_eq (tgt := 128) hM.fx (gz_r hp_5) dX9_helpers_95 (by decide) (fun h_7 => ?_) (fun h_7 => ?_)
        · have hf := gpos h_7 hf
          exact wX9_helpers_128 hLC hM (fX9_helpers_72 g fu) ih  _ _ _ _ _ _ _ _ hg0 hr1 hr2 hr3 hr4 hr5 hf _ _ _ hH hl
        · have hf := gneg' h_7 hf
          refine lv_aload_n hM.fx.1 hM.fx.2.1 dX9_helpers_98 rfl (lv_at hl 0 rfl) ?_
          refine lv_iload hM.fx.1 hM.fx.2.1 dX9_helpers_99 (lv_at hl 5 rfl) ?_
          refine lv_iload_n hM.fx.1 hM.fx.2.1 dX9_helpers_101 rfl (lv_at hl 2 rfl) ?_
          obtain ⟨x_9, ex_9, hf⟩ := gbd hf
          refine r_go1 hH rfl (r_runV (As := [.int (gi x5), .int (gi x2)]) hM hH cv_X9_206 (mX9_mayUse hLC hM.ns hg0 hr5 hr2 ex_9) (hLC.in hg0 (by decide)) (by decide) rfl rfl rfl hl.1 rfl (Nat.le_of_ble_eq_true rfl) ⟨(Nat.le_of_ble_eq_true rfl), (Nat.le_of_ble_eq_true rfl)⟩ ⟨(Nat.le_of_ble_eq_true rfl), (Nat.le_of_ble_eq_true rfl)⟩ dX9_helpers_102) (fun hp_8 H locs hH => ?_)
          refine r_if_eq (tgt := 128) hM.fx (gz_r hp_8) dX9_helpers_105 (by decide) (fun h_10 => ?_) (fun h_10 => ?_)
          · have hf := gpos h_10 hf
            exact wX9_helpers_128 hLC hM (fX9_helpers_72 g fu) ih  _ _ _ _ _ _ _ _ hg0 hr1 hr2 hr3 hr4 hr5 hf _ _ _ hH hl
          · have hf := gneg' h_10 hf
            refine lv_aload_n hM.fx.1 hM.fx.2.1 dX9_helpers_108 rfl (lv_at hl 0 rfl) ?_
            refine lv_iload hM.fx.1 hM.fx.2.1 dX9_helpers_109 (lv_at hl 5 rfl) ?_
            refine lv_iload_n hM.fx.1 hM.fx.2.1 dX9_helpers_111 rfl (lv_at hl 3 rfl) ?_
            refine lv_iload_n hM.fx.1 hM.fx.2.1 dX9_helpers_112 rfl (lv_at hl 2 rfl) ?_
            obtain ⟨x_12, ex_12, hf⟩ := gbd hf
            refine r_go1 hH rfl (r_runV (As := [.int (gi x5), .int (gi x3), .int (gi x2)]) hM hH cv_X9_332 (mX9_hasCommand hLC hM.ns hg0 hr5 hr3 hr2 ex_12) (hLC.in hg0 (by decide)) (by decide) rfl rfl rfl hl.1 rfl (Nat.le_of_ble_eq_true rfl) ⟨(Nat.le_of_ble_eq_true rfl), (Nat.le_of_ble_eq_true rfl)⟩ ⟨(Nat.le_of_ble_eq_true rfl), (Nat.le_of_ble_eq_true rfl)⟩ dX9_helpers_113) (fun hp_11 H locs hH => ?_)
            refine r_if_eq (tgt := 128) hM.fx (gz_r hp_11) dX9_helpers_116 (by decide) (fun h_13 => ?_) (fun h_13 => ?_)
            · have hf := gpos h_13 hf
              exact wX9_helpers_128 hLC hM (fX9_helpers_72 g fu) ih  _ _ _ _ _ _ _ _ hg0 hr1 hr2 hr3 hr4 hr5 hf _ _ _ hH hl
            · have hf := gneg' h_13 hf
              refine lv_iload hM.fx.1 hM.fx.2.1 dX9_helpers_119 (lv_at hl 4 rfl) ?_
              refine lv_iconst (v := gi (1)) hM.fx.1 hM.fx.2.1 dX9_helpers_121 rfl ?_
              refine lv_iload hM.fx.1 hM.fx.2.1 dX9_helpers_122 (lv_at hl 5 rfl) ?_
              refine r_ishl hM.fx dX9_helpers_124 ?_
              refine r_ior hM.fx dX9_helpers_125 ?_
              obtain ⟨x_14, ex_14, hf⟩ := gst_s hf
              refine W.eq (g2 := F0 m _ ls (.int (gi x_14) :: _)) (by rw [ex_14]) ?_
              have hx_14 : gRI x_14 := by rw [ex_14]; exact (gi_r _)
              refine lv_istore (lv' := [(4, .int (gi x_14)), (0, .ref (w.1 + a0)), (1, .int (gi x1)), (2, .int (gi x2)), (3, .int (gi x3)), (5, .int (gi x5))]) hM.fx.1 hM.fx.2.1 dX9_helpers_126 hl (by decide) rfl (fun ls hl => ?_)
              exact wX9_helpers_128 hLC hM (fX9_helpers_72 g fu) ih  _ _ _ _ _ _ _ _ hg0 hr1 hr2 hr3 hx_14 hr5 hf _ _ _ hH (lv_sub hl [1, 2, 3, 4, 0, 5] rfl)
def fX9_helpers_65 (g : Nat → Nat)  (a0 : Nat) (x1 : Int) (x2 : Int) (xs0 : Int) (M : gMem) : Option (Int × gMem) :=
  fX9_helpers_72 g gF a0 x1 x2 xs0 0 0 M
set_option maxHeartbeats 4000000 in
set_option maxRecDepth 100000 in
theorem wX9_helpers_65 {w : gW} {n : Nat} {Rm : Nat → Nat → Nat} {g : Nat → Nat} (hLC : gLC g n Rm) {p : Program} {l : Launch} {e : Env} {s : State} {m : MethodId} {args : Array Value} {below : List Frame} {meth : Method} {c : Code} (hM : gMC w p l s m args meth c cX9_helpers 6 RX9 (some .int))  : ∀ (a0 : Nat) (x1 : Int) (x2 : Int) (xs0 : Int) (M : gMem) (r : (Int × gMem)) (hg0 : g a0 = 9) (hr1 : gRI x1) (hr2 : gRI x2) (hrs0 : gRI xs0) (hf : fX9_helpers_65 g a0 x1 x2 xs0 M = some r) (H : Heap) (locs : List Loc) (ls : Array Slot) (hH : gH w n Rm M s H locs) (hl : lv_has ls 6 [(0, .ref (w.1 + a0)), (1, .int (gi x1)), (2, .int (gi x2))]), W p l e { frames := 6, cells := 0, slots := 0, locals := 177 } s m args below meth c H locs 0 0 (gQ w n Rm below args s 0 0 (.inr (some (.int (gi r.1)))) r.2 (gRI r.1)) (F0 m 65 ls [.int (gi xs0)]) := by
  intro a0 x1 x2 xs0 M r hg0 hr1 hr2 hrs0 hf H locs ls hH hl
  unfold fX9_helpers_65 at hf
  refine lv_istore_n (lv' := [(3, .int (gi xs0)), (0, .ref (w.1 + a0)), (1, .int (gi x1)), (2, .int (gi x2))]) hM.fx.1 hM.fx.2.1 dX9_helpers_65 rfl hl (by decide) rfl (fun ls hl => ?_)
  refine lv_iconst (v := gi (0)) hM.fx.1 hM.fx.2.1 dX9_helpers_66 rfl ?_
  refine lv_istore (lv' := [(4, .int (gi 0)), (3, .int (gi xs0)), (0, .ref (w.1 + a0)), (1, .int (gi x1)), (2, .int (gi x2))]) hM.fx.1 hM.fx.2.1 dX9_helpers_67 hl (by decide) rfl (fun ls hl => ?_)
  refine lv_iconst (v := gi (0)) hM.fx.1 hM.fx.2.1 dX9_helpers_69 rfl ?_
  refine lv_istore (lv' := [(5, .int (gi 0)), (4, .int (gi 0)), (3, .int (gi xs0)), (0, .ref (w.1 + a0)), (1, .int (gi x1)), (2, .int (gi x2))]) hM.fx.1 hM.fx.2.1 dX9_helpers_70 hl (by decide) rfl (fun ls hl => ?_)
  exact wX9_helpers_72 hLC hM  gF _ _ _ _ _ _ _ _ hg0 hr1 hr2 hrs0 (gcR (k := 0) (by decide)) (gcR (k := 0) (by decide)) hf _ _ _ hH (lv_sub hl [3, 4, 5, 2, 1, 0] rfl)
def fX9_helpers_14 (g : Nat → Nat)  (a0 : Nat) (x1 : Int) (as0 : Nat) (xs1 : Int) (M : gMem) : Option (Int × gMem) :=
  gst (gup M as0 7 xs1) fun M_1 => if 0 < M_1 a0 7 then (some (0, M_1)) else ((fX9_stuckBy g a0 x1 M_1).bind fun x_5 => if x_5 = 0 then (some (0, M_1)) else ((fX9_of g a0 x1 2 M_1).bind fun x_8 => (fX9_of g a0 x1 (gwi (42 + x_8)) M_1).bind fun x_10 => (fX9_stuckBy g a0 x1 M_1).bind fun x_12 => if x_12 = 1 then (fX9_helpers_65 g a0 x1 x_10 9 M_1) else (fX9_helpers_65 g a0 x1 x_10 8 M_1)))
set_option maxHeartbeats 4000000 in
set_option maxRecDepth 100000 in
theorem wX9_helpers_14 {w : gW} {n : Nat} {Rm : Nat → Nat → Nat} {g : Nat → Nat} (hLC : gLC g n Rm) {p : Program} {l : Launch} {e : Env} {s : State} {m : MethodId} {args : Array Value} {below : List Frame} {meth : Method} {c : Code} (hM : gMC w p l s m args meth c cX9_helpers 6 RX9 (some .int))  : ∀ (a0 : Nat) (x1 : Int) (as0 : Nat) (xs1 : Int) (M : gMem) (r : (Int × gMem)) (hg0 : g a0 = 9) (hr1 : gRI x1) (hgs0 : g as0 = 9) (hrs1 : gRI xs1) (hf : fX9_helpers_14 g a0 x1 as0 xs1 M = some r) (H : Heap) (locs : List Loc) (ls : Array Slot) (hH : gH w n Rm M s H locs) (hl : lv_has ls 6 [(0, .ref (w.1 + a0)), (1, .int (gi x1))]), W p l e { frames := 6, cells := 0, slots := 0, locals := 177 } s m args below meth c H locs 0 0 (gQ w n Rm below args s 0 0 (.inr (some (.int (gi r.1)))) r.2 (gRI r.1)) (F0 m 14 ls [.int (gi xs1), .ref (w.1 + as0)]) := by
  intro a0 x1 as0 xs1 M r hg0 hr1 hgs0 hrs1 hf H locs ls hH hl
  unfold fX9_helpers_14 at hf
  refine r_putI hM.fx hM.kf hH fp_X9_46 (hLC.in hgs0 (by decide)) hrs1 dX9_helpers_14 (fun H locs hH => ?_)
  obtain ⟨M_1, eM_1, hf⟩ := gst_s hf
  rw [← eM_1] at hH
  refine lv_aload_n hM.fx.1 hM.fx.2.1 dX9_helpers_17 rfl (lv_at hl 0 rfl) ?_
  refine r_getI hM.fx hM.kf hH fl_X9_46 (hLC.in hg0 (by decide)) dX9_helpers_18 ?_
  have hr_2 := hH.2.2.i (hLC.in hg0 (by decide)).2.2 (by decide : glg 9 7 = false)
  refine r_if_gt (tgt := 32) hM.fx hr_2 dX9_helpers_21 (by decide) (fun h_3 => ?_) (fun h_3 => ?_)
  · have hf := gpos h_3 hf
    refine lv_iconst (v := gi (0)) hM.fx.1 hM.fx.2.1 dX9_helpers_32 rfl ?_
    obtain rfl := Option.some.inj hf
    exact r_iret hM hH (gcR (k := 0) (by decide)) ⟨(Nat.le_of_ble_eq_true rfl), (Nat.le_of_ble_eq_true rfl)⟩ dX9_helpers_33
  · have hf := gneg' h_3 hf
    refine lv_aload_n hM.fx.1 hM.fx.2.1 dX9_helpers_24 rfl (lv_at hl 0 rfl) ?_
    refine lv_iload_n hM.fx.1 hM.fx.2.1 dX9_helpers_25 rfl (lv_at hl 1 rfl) ?_
    obtain ⟨x_5, ex_5, hf⟩ := gbd hf
    refine r_go1 hH rfl (r_runV (As := [.int (gi x1)]) hM hH cv_X9_261 (mX9_stuckBy hLC hM.ns hg0 hr1 ex_5) (hLC.in hg0 (by decide)) (by decide) rfl rfl rfl hl.1 rfl (Nat.le_of_ble_eq_true rfl) ⟨(Nat.le_of_ble_eq_true rfl), (Nat.le_of_ble_eq_true rfl)⟩ ⟨(Nat.le_of_ble_eq_true rfl), (Nat.le_of_ble_eq_true rfl)⟩ dX9_helpers_26) (fun hp_4 H locs hH => ?_)
    refine r_if_ne (tgt := 34) hM.fx hp_4 dX9_helpers_29 (by decide) (fun h_6 => ?_) (fun h_6 => ?_)
    · have hf := gneg' h_6 hf
      refine lv_aload_n hM.fx.1 hM.fx.2.1 dX9_helpers_34 rfl (lv_at hl 0 rfl) ?_
      refine lv_iload_n hM.fx.1 hM.fx.2.1 dX9_helpers_35 rfl (lv_at hl 1 rfl) ?_
      refine lv_bipush (v := gi (42)) hM.fx.1 hM.fx.2.1 dX9_helpers_36 (by decide) ?_
      refine lv_aload_n hM.fx.1 hM.fx.2.1 dX9_helpers_38 rfl (lv_at hl 0 rfl) ?_
      refine lv_iload_n hM.fx.1 hM.fx.2.1 dX9_helpers_39 rfl (lv_at hl 1 rfl) ?_
      refine lv_iconst (v := gi (2)) hM.fx.1 hM.fx.2.1 dX9_helpers_40 rfl ?_
      obtain ⟨x_8, ex_8, hf⟩ := gbd hf
      refine r_go1 hH rfl (r_runV (As := [.int (gi x1), .int (gi 2)]) hM hH cv_X9_135 (mX9_of hLC hM.ns hg0 hr1 (gcR (k := 2) (by decide)) ex_8) (hLC.in hg0 (by decide)) (by decide) rfl rfl rfl hl.1 rfl (Nat.le_of_ble_eq_true rfl) ⟨(Nat.le_of_ble_eq_true rfl), (Nat.le_of_ble_eq_true rfl)⟩ ⟨(Nat.le_of_ble_eq_true rfl), (Nat.le_of_ble_eq_true rfl)⟩ dX9_helpers_41) (fun hp_7 H locs hH => ?_)
      refine r_iadd hM.fx dX9_helpers_44 ?_
      obtain ⟨x_10, ex_10, hf⟩ := gbd hf
      refine r_go1 hH rfl (r_runV (As := [.int (gi x1), .int (gi (gwi (42 + x_8)))]) hM hH cv_X9_135 (mX9_of hLC hM.ns hg0 hr1 (gwi_r _) ex_10) (hLC.in hg0 (by decide)) (by decide) rfl rfl rfl hl.1 rfl (Nat.le_of_ble_eq_true rfl) ⟨(Nat.le_of_ble_eq_true rfl), (Nat.le_of_ble_eq_true rfl)⟩ ⟨(Nat.le_of_ble_eq_true rfl), (Nat.le_of_ble_eq_true rfl)⟩ dX9_helpers_45) (fun hp_9 H locs hH => ?_)
      refine lv_istore_n (lv' := [(2, .int (gi x_10)), (0, .ref (w.1 + a0)), (1, .int (gi x1))]) hM.fx.1 hM.fx.2.1 dX9_helpers_48 rfl hl (by decide) rfl (fun ls hl => ?_)
      refine lv_aload_n hM.fx.1 hM.fx.2.1 dX9_helpers_49 rfl (lv_at hl 1 rfl) ?_
      refine lv_iload_n hM.fx.1 hM.fx.2.1 dX9_helpers_50 rfl (lv_at hl 2 rfl) ?_
      obtain ⟨x_12, ex_12, hf⟩ := gbd hf
      refine r_go1 hH rfl (r_runV (As := [.int (gi x1)]) hM hH cv_X9_261 (mX9_stuckBy hLC hM.ns hg0 hr1 ex_12) (hLC.in hg0 (by decide)) (by decide) rfl rfl rfl hl.1 rfl (Nat.le_of_ble_eq_true rfl) ⟨(Nat.le_of_ble_eq_true rfl), (Nat.le_of_ble_eq_true rfl)⟩ ⟨(Nat.le_of_ble_eq_true rfl), (Nat.le_of_ble_eq_true rfl)⟩ dX9_helpers_51) (fun hp_11 H locs hH => ?_)
      refine lv_iconst (v := gi (1)) hM.fx.1 hM.fx.2.1 dX9_helpers_54 rfl ?_
      refine r_icmp_ne (tgt := 63) hM.fx hp_11 (gcR (k := 1) (by decide)) dX9_helpers_55 (by decide) (fun h_13 => ?_) (fun h_13 => ?_)
      · have hf := gneg' h_13 hf
        refine lv_bipush (v := gi (8)) hM.fx.1 hM.fx.2.1 dX9_helpers_63 (by decide) ?_
        exact wX9_helpers_65 hLC hM   _ _ _ _ _ _ hg0 hr1 hp_9 (gcR (k := 8) (by decide)) hf _ _ _ hH (lv_sub hl [1, 2, 0] rfl)
      · have hf := gpos h_13 hf
        refine lv_bipush (v := gi (9)) hM.fx.1 hM.fx.2.1 dX9_helpers_58 (by decide) ?_
        refine lv_goto (tgt := 65) hM.fx.1 hM.fx.2.1 dX9_helpers_60 (by decide) ?_
        exact wX9_helpers_65 hLC hM   _ _ _ _ _ _ hg0 hr1 hp_9 (gcR (k := 9) (by decide)) hf _ _ _ hH (lv_sub hl [1, 2, 0] rfl)
    · have hf := gpos h_6 hf
      refine lv_iconst (v := gi (0)) hM.fx.1 hM.fx.2.1 dX9_helpers_32 rfl ?_
      obtain rfl := Option.some.inj hf
      exact r_iret hM hH (gcR (k := 0) (by decide)) ⟨(Nat.le_of_ble_eq_true rfl), (Nat.le_of_ble_eq_true rfl)⟩ dX9_helpers_33
def fX9_helpers (g : Nat → Nat) (a0 : Nat) (x1 : Int) (M : gMem) : Option (Int × gMem) :=
  (fX9_isProcess g a0 x1 M).bind fun x_2 => if x_2 = 0 then (fX9_helpers_14 g a0 x1 a0 1 M) else (fX9_helpers_14 g a0 x1 a0 0 M)
set_option maxHeartbeats 4000000 in
set_option maxRecDepth 100000 in
theorem mX9_helpers {w : gW} {n : Nat} {Rm : Nat → Nat → Nat} {g : Nat → Nat} (hLC : gLC g n Rm) {l : Launch} (hl9 : l.stackTraces = false) {a0 : Nat} {x1 : Int} {M : gMem} {r : (Int × gMem)} (hg0 : g a0 = 9) (hr1 : gRI x1) (hf : fX9_helpers g a0 x1 M = some r) : gMT w n Rm l yX9_helpers cX9_helpers 6 (some .int) 6 177 0 0 [.ref (w.1 + a0), .int (gi x1)] M (.inr (some (.int (gi r.1)))) r.2 (gRI r.1) := by
  unfold fX9_helpers at hf
  refine gMT.of hl9 (by decide +kernel) ((Nat.le_of_ble_eq_true rfl)) ?_
  intro p e s m below meth c hM hH ls hl
  have hM : gMC w p l s m ([.ref (w.1 + a0), .int (gi x1)] : List Value).toArray meth c cX9_helpers 6 RX9 (some .int) := hM
  have hl : lv_has ls 6 [(0, .ref (w.1 + a0)), (1, .int (gi x1))] := hl
  refine lv_aload_n hM.fx.1 hM.fx.2.1 dX9_helpers_0 rfl (lv_at hl 0 rfl) ?_
  refine lv_aload_n hM.fx.1 hM.fx.2.1 dX9_helpers_1 rfl (lv_at hl 0 rfl) ?_
  refine lv_iload_n hM.fx.1 hM.fx.2.1 dX9_helpers_2 rfl (lv_at hl 1 rfl) ?_
  obtain ⟨x_2, ex_2, hf⟩ := gbd hf
  refine r_go1 hH rfl (r_runV (As := [.int (gi x1)]) hM hH cv_X9_319 (mX9_isProcess hLC hM.ns hg0 hr1 ex_2) (hLC.in hg0 (by decide)) (by decide) rfl rfl rfl hl.1 rfl (Nat.le_of_ble_eq_true rfl) ⟨(Nat.le_of_ble_eq_true rfl), (Nat.le_of_ble_eq_true rfl)⟩ ⟨(Nat.le_of_ble_eq_true rfl), (Nat.le_of_ble_eq_true rfl)⟩ dX9_helpers_3) (fun hp_1 H locs hH => ?_)
  refine r_if_eq (tgt := 13) hM.fx (gz_r hp_1) dX9_helpers_6 (by decide) (fun h_3 => ?_) (fun h_3 => ?_)
  · have hf := gpos h_3 hf
    refine lv_iconst (v := gi (1)) hM.fx.1 hM.fx.2.1 dX9_helpers_13 rfl ?_
    exact wX9_helpers_14 hLC hM   _ _ _ _ _ _ hg0 hr1 hg0 (gcR (k := 1) (by decide)) hf _ _ _ hH hl
  · have hf := gneg' h_3 hf
    refine lv_iconst (v := gi (0)) hM.fx.1 hM.fx.2.1 dX9_helpers_9 rfl ?_
    refine lv_goto (tgt := 14) hM.fx.1 hM.fx.2.1 dX9_helpers_10 (by decide) ?_
    exact wX9_helpers_14 hLC hM   _ _ _ _ _ _ hg0 hr1 hg0 (gcR (k := 0) (by decide)) hf _ _ _ hH hl
def fX9_unfairNow_12 (g : Nat → Nat)  : Nat → Nat → Int → Int → Int → gMem → Option Int
  | 0, _, _, _, _, _ => none
  | fu + 1, a0, x1, x2, x3, M => if (0 : Int) ≤ 1 ∧ (1 : Int) < 1190 then if M (a0 + 1) (1 : Int).toNat ≤ x3 then (some (gwi (x1 - x2))) else ((fX9_of g a0 x3 7 M).bind fun x_5 => gst (gmax x1 x_5) fun x_6 => (fX9_of g a0 x3 7 M).bind fun x_8 => gst (gmin x2 x_8) fun x_9 => gst (gwi (x3 + 1)) fun x_10 => fX9_unfairNow_12 g fu a0 x_6 x_9 x_10 M) else none
set_option maxHeartbeats 4000000 in
set_option maxRecDepth 100000 in
theorem wX9_unfairNow_12 {w : gW} {n : Nat} {Rm : Nat → Nat → Nat} {g : Nat → Nat} (hLC : gLC g n Rm) {p : Program} {l : Launch} {e : Env} {s : State} {m : MethodId} {args : Array Value} {below : List Frame} {meth : Method} {c : Code} (hM : gMC w p l s m args meth c cX9_unfairNow 4 RX9 (some .int))  : ∀ (fu : Nat), ∀ (a0 : Nat) (x1 : Int) (x2 : Int) (x3 : Int) (M : gMem) (r : Int) (hg0 : g a0 = 9) (hr1 : gRI x1) (hr2 : gRI x2) (hr3 : gRI x3) (hf : fX9_unfairNow_12 g fu a0 x1 x2 x3 M = some r) (H : Heap) (locs : List Loc) (ls : Array Slot) (hH : gH w n Rm M s H locs) (hl : lv_has ls 4 [(0, .ref (w.1 + a0)), (1, .int (gi x1)), (2, .int (gi x2)), (3, .int (gi x3))]), W p l e { frames := 2, cells := 0, slots := 0, locals := 82 } s m args below meth c H locs 0 0 (gQ w n Rm below args s 0 0 (.inr (some (.int (gi r)))) M (gRI r)) (F0 m 12 ls []) := by
  intro fu
  induction fu with
  | zero =>
    intro a0 x1 x2 x3 M r hg0 hr1 hr2 hr3 hf H locs ls hH hl
    exact absurd hf (by simp [fX9_unfairNow_12])
  | succ fu ih =>
    intro a0 x1 x2 x3 M r hg0 hr1 hr2 hr3 hf H locs ls hH hl
    unfold fX9_unfairNow_12 at hf
    refine lv_iload_n hM.fx.1 hM.fx.2.1 dX9_unfairNow_12 rfl (lv_at hl 3 rfl) ?_
    refine lv_aload_n hM.fx.1 hM.fx.2.1 dX9_unfairNow_13 rfl (lv_at hl 0 rfl) ?_
    refine r_getR hM.fx hM.kf hH hLC fl_X9_7 hg0 gch_9_0 dX9_unfairNow_14 ?_
    refine lv_iconst (v := gi (1)) hM.fx.1 hM.fx.2.1 dX9_unfairNow_17 rfl ?_
    obtain ⟨g_1, hf⟩ := gif hf
    refine r_iald hM.fx hM.kf hH (hLC.in (hLC.ch hg0 (by decide) gch_9_0) (by decide)) (⟨by decide, by decide⟩ : gAr 19056 0) (gcR (k := 1) (by decide)) g_1 dX9_unfairNow_18 ?_
    have hr_2 := hH.2.2.i (k := (1 : Int).toNat) (hLC.in (hLC.ch hg0 (by decide) gch_9_0) (by decide)).2.2 (glg_a (⟨by decide, by decide⟩ : gAr 19056 0))
    refine r_icmp_ge (tgt := 52) hM.fx hr3 hr_2 dX9_unfairNow_19 (by decide) (fun h_3 => ?_) (fun h_3 => ?_)
    · have hf := gpos h_3 hf
      refine lv_iload_n hM.fx.1 hM.fx.2.1 dX9_unfairNow_52 rfl (lv_at hl 1 rfl) ?_
      refine lv_iload_n hM.fx.1 hM.fx.2.1 dX9_unfairNow_53 rfl (lv_at hl 2 rfl) ?_
      refine r_isub hM.fx dX9_unfairNow_54 ?_
      obtain rfl := Option.some.inj hf
      exact r_iret hM hH (gwi_r _) ⟨(Nat.le_of_ble_eq_true rfl), (Nat.le_of_ble_eq_true rfl)⟩ dX9_unfairNow_55
    · have hf := gneg' h_3 hf
      refine lv_iload_n hM.fx.1 hM.fx.2.1 dX9_unfairNow_22 rfl (lv_at hl 1 rfl) ?_
      refine lv_aload_n hM.fx.1 hM.fx.2.1 dX9_unfairNow_23 rfl (lv_at hl 0 rfl) ?_
      refine lv_iload_n hM.fx.1 hM.fx.2.1 dX9_unfairNow_24 rfl (lv_at hl 3 rfl) ?_
      refine lv_bipush (v := gi (7)) hM.fx.1 hM.fx.2.1 dX9_unfairNow_25 (by decide) ?_
      obtain ⟨x_5, ex_5, hf⟩ := gbd hf
      refine r_go1 hH rfl (r_runV (As := [.int (gi x3), .int (gi 7)]) hM hH cv_X9_135 (mX9_of hLC hM.ns hg0 hr3 (gcR (k := 7) (by decide)) ex_5) (hLC.in hg0 (by decide)) (by decide) rfl rfl rfl hl.1 rfl (Nat.le_of_ble_eq_true rfl) ⟨(Nat.le_of_ble_eq_true rfl), (Nat.le_of_ble_eq_true rfl)⟩ ⟨(Nat.le_of_ble_eq_true rfl), (Nat.le_of_ble_eq_true rfl)⟩ dX9_unfairNow_27) (fun hp_4 H locs hH => ?_)
      refine r_mmax hM.fx hl.1 ⟨gw_1567, gw_706, gw_105, gw_707⟩ ⟨(Nat.le_of_ble_eq_true rfl), (Nat.le_of_ble_eq_true rfl)⟩ ⟨(Nat.le_of_ble_eq_true rfl), (Nat.le_of_ble_eq_true rfl)⟩ hr1 hp_4 dX9_unfairNow_30 ?_
      obtain ⟨x_6, ex_6, hf⟩ := gst_s hf
      refine W.eq (g2 := F0 m _ ls (.int (gi x_6) :: _)) (by rw [ex_6]) ?_
      have hx_6 : gRI x_6 := by rw [ex_6]; exact (gmax_r hr1 hp_4)
      refine lv_istore_n (lv' := [(1, .int (gi x_6)), (0, .ref (w.1 + a0)), (2, .int (gi x2)), (3, .int (gi x3))]) hM.fx.1 hM.fx.2.1 dX9_unfairNow_33 rfl hl (by decide) rfl (fun ls hl => ?_)
      refine lv_iload_n hM.fx.1 hM.fx.2.1 dX9_unfairNow_34 rfl (lv_at hl 2 rfl) ?_
      refine lv_aload_n hM.fx.1 hM.fx.2.1 dX9_unfairNow_35 rfl (lv_at hl 1 rfl) ?_
      refine lv_iload_n hM.fx.1 hM.fx.2.1 dX9_unfairNow_36 rfl (lv_at hl 3 rfl) ?_
      refine lv_bipush (v := gi (7)) hM.fx.1 hM.fx.2.1 dX9_unfairNow_37 (by decide) ?_
      obtain ⟨x_8, ex_8, hf⟩ := gbd hf
      refine r_go1 hH rfl (r_runV (As := [.int (gi x3), .int (gi 7)]) hM hH cv_X9_135 (mX9_of hLC hM.ns hg0 hr3 (gcR (k := 7) (by decide)) ex_8) (hLC.in hg0 (by decide)) (by decide) rfl rfl rfl hl.1 rfl (Nat.le_of_ble_eq_true rfl) ⟨(Nat.le_of_ble_eq_true rfl), (Nat.le_of_ble_eq_true rfl)⟩ ⟨(Nat.le_of_ble_eq_true rfl), (Nat.le_of_ble_eq_true rfl)⟩ dX9_unfairNow_39) (fun hp_7 H locs hH => ?_)
      refine r_mmin hM.fx hl.1 ⟨gw_1331, gw_445, gw_105, gw_446⟩ ⟨(Nat.le_of_ble_eq_true rfl), (Nat.le_of_ble_eq_true rfl)⟩ ⟨(Nat.le_of_ble_eq_true rfl), (Nat.le_of_ble_eq_true rfl)⟩ hr2 hp_7 dX9_unfairNow_42 ?_
      obtain ⟨x_9, ex_9, hf⟩ := gst_s hf
      refine W.eq (g2 := F0 m _ ls (.int (gi x_9) :: _)) (by rw [ex_9]) ?_
      have hx_9 : gRI x_9 := by rw [ex_9]; exact (gmin_r hr2 hp_7)
      refine lv_istore_n (lv' := [(2, .int (gi x_9)), (1, .int (gi x_6)), (0, .ref (w.1 + a0)), (3, .int (gi x3))]) hM.fx.1 hM.fx.2.1 dX9_unfairNow_45 rfl hl (by decide) rfl (fun ls hl => ?_)
      obtain ⟨x_10, ex_10, hf⟩ := gst_s hf
      have hx_10 : gRI x_10 := by rw [ex_10]; exact gwi_r _
      refine r_iinc (lv' := [(3, .int (gi x_10)), (2, .int (gi x_9)), (1, .int (gi x_6)), (0, .ref (w.1 + a0))]) hM.fx dX9_unfairNow_46 hl (k := 3) rfl (by decide) (by rw [ex_10]; rfl) (fun ls hl => ?_)
      refine lv_goto (tgt := 12) hM.fx.1 hM.fx.2.1 dX9_unfairNow_49 (by decide) ?_
      exact ih _ _ _ _ _ _ hg0 hx_6 hx_9 hx_10 hf _ _ _ hH (lv_sub hl [3, 2, 1, 0] rfl)
def fX9_unfairNow (g : Nat → Nat) (a0 : Nat) (M : gMem) : Option Int :=
  (fX9_of g a0 0 7 M).bind fun x_2 => fX9_unfairNow_12 g gF a0 x_2 x_2 1 M
set_option maxHeartbeats 4000000 in
set_option maxRecDepth 100000 in
theorem mX9_unfairNow {w : gW} {n : Nat} {Rm : Nat → Nat → Nat} {g : Nat → Nat} (hLC : gLC g n Rm) {l : Launch} (hl9 : l.stackTraces = false) {a0 : Nat} {M : gMem} {r : Int} (hg0 : g a0 = 9) (hf : fX9_unfairNow g a0 M = some r) : gMT w n Rm l yX9_unfairNow cX9_unfairNow 4 (some .int) 2 82 0 0 [.ref (w.1 + a0)] M (.inr (some (.int (gi r)))) M (gRI r) := by
  unfold fX9_unfairNow at hf
  refine gMT.of hl9 (by decide +kernel) ((Nat.le_of_ble_eq_true rfl)) ?_
  intro p e s m below meth c hM hH ls hl
  have hM : gMC w p l s m ([.ref (w.1 + a0)] : List Value).toArray meth c cX9_unfairNow 4 RX9 (some .int) := hM
  have hl : lv_has ls 4 [(0, .ref (w.1 + a0))] := hl
  refine lv_aload_n hM.fx.1 hM.fx.2.1 dX9_unfairNow_0 rfl (lv_at hl 0 rfl) ?_
  refine lv_iconst (v := gi (0)) hM.fx.1 hM.fx.2.1 dX9_unfairNow_1 rfl ?_
  refine lv_bipush (v := gi (7)) hM.fx.1 hM.fx.2.1 dX9_unfairNow_2 (by decide) ?_
  obtain ⟨x_2, ex_2, hf⟩ := gbd hf
  refine r_go1 hH rfl (r_runV (As := [.int (gi 0), .int (gi 7)]) hM hH cv_X9_135 (mX9_of hLC hM.ns hg0 (gcR (k := 0) (by decide)) (gcR (k := 7) (by decide)) ex_2) (hLC.in hg0 (by decide)) (by decide) rfl rfl rfl hl.1 rfl (Nat.le_of_ble_eq_true rfl) ⟨(Nat.le_of_ble_eq_true rfl), (Nat.le_of_ble_eq_true rfl)⟩ ⟨(Nat.le_of_ble_eq_true rfl), (Nat.le_of_ble_eq_true rfl)⟩ dX9_unfairNow_4) (fun hp_1 H locs hH => ?_)
  refine lv_istore_n (lv' := [(1, .int (gi x_2)), (0, .ref (w.1 + a0))]) hM.fx.1 hM.fx.2.1 dX9_unfairNow_7 rfl hl (by decide) rfl (fun ls hl => ?_)
  refine lv_iload_n hM.fx.1 hM.fx.2.1 dX9_unfairNow_8 rfl (lv_at hl 0 rfl) ?_
  refine lv_istore_n (lv' := [(2, .int (gi x_2)), (1, .int (gi x_2)), (0, .ref (w.1 + a0))]) hM.fx.1 hM.fx.2.1 dX9_unfairNow_9 rfl hl (by decide) rfl (fun ls hl => ?_)
  refine lv_iconst (v := gi (1)) hM.fx.1 hM.fx.2.1 dX9_unfairNow_10 rfl ?_
  refine lv_istore_n (lv' := [(3, .int (gi 1)), (2, .int (gi x_2)), (1, .int (gi x_2)), (0, .ref (w.1 + a0))]) hM.fx.1 hM.fx.2.1 dX9_unfairNow_11 rfl hl (by decide) rfl (fun ls hl => ?_)
  exact wX9_unfairNow_12 hLC hM  gF _ _ _ _ _ _ hg0 hp_1 hp_1 (gcR (k := 1) (by decide)) hf _ _ _ hH (lv_sub hl [3, 2, 1, 0] rfl)
def fX9_unfair (g : Nat → Nat) (a0 : Nat) (M : gMem) : Option (Int × gMem) :=
  gst (gup M a0 7 0) fun M_1 => (fX9_unfairNow g a0 M_1).bind fun x_3 => some (x_3, M_1)
set_option maxHeartbeats 4000000 in
set_option maxRecDepth 100000 in
theorem mX9_unfair {w : gW} {n : Nat} {Rm : Nat → Nat → Nat} {g : Nat → Nat} (hLC : gLC g n Rm) {l : Launch} (hl9 : l.stackTraces = false) {a0 : Nat} {M : gMem} {r : (Int × gMem)} (hg0 : g a0 = 9) (hf : fX9_unfair g a0 M = some r) : gMT w n Rm l yX9_unfair cX9_unfair 1 (some .int) 3 105 0 0 [.ref (w.1 + a0)] M (.inr (some (.int (gi r.1)))) r.2 (gRI r.1) := by
  unfold fX9_unfair at hf
  refine gMT.of hl9 (by decide +kernel) ((Nat.le_of_ble_eq_true rfl)) ?_
  intro p e s m below meth c hM hH ls hl
  have hM : gMC w p l s m ([.ref (w.1 + a0)] : List Value).toArray meth c cX9_unfair 1 RX9 (some .int) := hM
  have hl : lv_has ls 1 [(0, .ref (w.1 + a0))] := hl
  refine lv_aload_n hM.fx.1 hM.fx.2.1 dX9_unfair_0 rfl (lv_at hl 0 rfl) ?_
  refine lv_iconst (v := gi (0)) hM.fx.1 hM.fx.2.1 dX9_unfair_1 rfl ?_
  refine r_putI hM.fx hM.kf hH fp_X9_46 (hLC.in hg0 (by decide)) (gcR (k := 0) (by decide)) dX9_unfair_2 (fun H locs hH => ?_)
  obtain ⟨M_1, eM_1, hf⟩ := gst_s hf
  rw [← eM_1] at hH
  refine lv_aload_n hM.fx.1 hM.fx.2.1 dX9_unfair_5 rfl (lv_at hl 0 rfl) ?_
  obtain ⟨x_3, ex_3, hf⟩ := gbd hf
  refine r_go1 hH rfl (r_runV (As := []) hM hH cv_X9_338 (mX9_unfairNow hLC hM.ns hg0 ex_3) (hLC.in hg0 (by decide)) (by decide) rfl rfl rfl hl.1 rfl (Nat.le_of_ble_eq_true rfl) ⟨(Nat.le_of_ble_eq_true rfl), (Nat.le_of_ble_eq_true rfl)⟩ ⟨(Nat.le_of_ble_eq_true rfl), (Nat.le_of_ble_eq_true rfl)⟩ dX9_unfair_6) (fun hp_2 H locs hH => ?_)
  obtain rfl := Option.some.inj hf
  exact r_iret hM hH hp_2 ⟨(Nat.le_of_ble_eq_true rfl), (Nat.le_of_ble_eq_true rfl)⟩ dX9_unfair_9
def fX9_hungriest_51 (g : Nat → Nat) (k9 : Nat → Int → Int → gMem → Option (Int × gMem)) (a0 : Nat) (x1 : Int) (x2 : Int) (M : gMem) : Option (Int × gMem) :=
  gst (gwi (x2 + 1)) fun x_1 => k9 a0 x1 x_1 M
set_option maxHeartbeats 4000000 in
set_option maxRecDepth 100000 in
theorem wX9_hungriest_51 {w : gW} {n : Nat} {Rm : Nat → Nat → Nat} {g : Nat → Nat} (hLC : gLC g n Rm) {p : Program} {l : Launch} {e : Env} {s : State} {m : MethodId} {args : Array Value} {below : List Frame} {meth : Method} {c : Code} (hM : gMC w p l s m args meth c cX9_hungriest 3 RX9 (some .int)) (k9 : Nat → Int → Int → gMem → Option (Int × gMem)) (hk9 : ∀ (a0 : Nat) (x1 : Int) (x2 : Int) (M : gMem) (r : (Int × gMem)) (hg0 : g a0 = 9) (hr1 : gRI x1) (hr2 : gRI x2) (hf : k9 a0 x1 x2 M = some r) (H : Heap) (locs : List Loc) (ls : Array Slot) (hH : gH w n Rm M s H locs) (hl : lv_has ls 3 [(0, .ref (w.1 + a0)), (1, .int (gi x1)), (2, .int (gi x2))]), W p l e { frames := 3, cells := 0, slots := 0, locals := 103 } s m args below meth c H locs 0 0 (gQ w n Rm below args s 0 0 (.inr (some (.int (gi r.1)))) r.2 (gRI r.1)) (F0 m 9 ls [])) : ∀ (a0 : Nat) (x1 : Int) (x2 : Int) (M : gMem) (r : (Int × gMem)) (hg0 : g a0 = 9) (hr1 : gRI x1) (hr2 : gRI x2) (hf : fX9_hungriest_51 g k9 a0 x1 x2 M = some r) (H : Heap) (locs : List Loc) (ls : Array Slot) (hH : gH w n Rm M s H locs) (hl : lv_has ls 3 [(0, .ref (w.1 + a0)), (1, .int (gi x1)), (2, .int (gi x2))]), W p l e { frames := 3, cells := 0, slots := 0, locals := 103 } s m args below meth c H locs 0 0 (gQ w n Rm below args s 0 0 (.inr (some (.int (gi r.1)))) r.2 (gRI r.1)) (F0 m 51 ls []) := by
  intro a0 x1 x2 M r hg0 hr1 hr2 hf H locs ls hH hl
  unfold fX9_hungriest_51 at hf
  obtain ⟨x_1, ex_1, hf⟩ := gst_s hf
  have hx_1 : gRI x_1 := by rw [ex_1]; exact gwi_r _
  refine r_iinc (lv' := [(2, .int (gi x_1)), (0, .ref (w.1 + a0)), (1, .int (gi x1))]) hM.fx dX9_hungriest_51 hl (k := 2) rfl (by decide) (by rw [ex_1]; rfl) (fun ls hl => ?_)
  refine lv_goto (tgt := 9) hM.fx.1 hM.fx.2.1 dX9_hungriest_54 (by decide) ?_
  exact hk9 _ _ _ _ _ hg0 hr1 hx_1 hf _ _ _ hH (lv_sub hl [1, 2, 0] rfl)
def fX9_hungriest_49 (g : Nat → Nat) (k9 : Nat → Int → Int → gMem → Option (Int × gMem)) (a0 : Nat) (x2 : Int) (M : gMem) : Option (Int × gMem) :=
  fX9_hungriest_51 g k9 a0 x2 x2 M
set_option maxHeartbeats 4000000 in
set_option maxRecDepth 100000 in
theorem wX9_hungriest_49 {w : gW} {n : Nat} {Rm : Nat → Nat → Nat} {g : Nat → Nat} (hLC : gLC g n Rm) {p : Program} {l : Launch} {e : Env} {s : State} {m : MethodId} {args : Array Value} {below : List Frame} {meth : Method} {c : Code} (hM : gMC w p l s m args meth c cX9_hungriest 3 RX9 (some .int)) (k9 : Nat → Int → Int → gMem → Option (Int × gMem)) (hk9 : ∀ (a0 : Nat) (x1 : Int) (x2 : Int) (M : gMem) (r : (Int × gMem)) (hg0 : g a0 = 9) (hr1 : gRI x1) (hr2 : gRI x2) (hf : k9 a0 x1 x2 M = some r) (H : Heap) (locs : List Loc) (ls : Array Slot) (hH : gH w n Rm M s H locs) (hl : lv_has ls 3 [(0, .ref (w.1 + a0)), (1, .int (gi x1)), (2, .int (gi x2))]), W p l e { frames := 3, cells := 0, slots := 0, locals := 103 } s m args below meth c H locs 0 0 (gQ w n Rm below args s 0 0 (.inr (some (.int (gi r.1)))) r.2 (gRI r.1)) (F0 m 9 ls [])) : ∀ (a0 : Nat) (x2 : Int) (M : gMem) (r : (Int × gMem)) (hg0 : g a0 = 9) (hr2 : gRI x2) (hf : fX9_hungriest_49 g k9 a0 x2 M = some r) (H : Heap) (locs : List Loc) (ls : Array Slot) (hH : gH w n Rm M s H locs) (hl : lv_has ls 3 [(0, .ref (w.1 + a0)), (2, .int (gi x2))]), W p l e { frames := 3, cells := 0, slots := 0, locals := 103 } s m args below meth c H locs 0 0 (gQ w n Rm below args s 0 0 (.inr (some (.int (gi r.1)))) r.2 (gRI r.1)) (F0 m 49 ls []) := by
  intro a0 x2 M r hg0 hr2 hf H locs ls hH hl
  unfold fX9_hungriest_49 at hf
  refine lv_iload_n hM.fx.1 hM.fx.2.1 dX9_hungriest_49 rfl (lv_at hl 1 rfl) ?_
  refine lv_istore_n (lv' := [(1, .int (gi x2)), (0, .ref (w.1 + a0)), (2, .int (gi x2))]) hM.fx.1 hM.fx.2.1 dX9_hungriest_50 rfl hl (by decide) rfl (fun ls hl => ?_)
  exact wX9_hungriest_51 hLC hM k9 hk9  _ _ _ _ _ hg0 hr2 hr2 hf _ _ _ hH (lv_sub hl [1, 0, 2] rfl)
def fX9_hungriest_9 (g : Nat → Nat)  : Nat → Nat → Int → Int → gMem → Option (Int × gMem)
  | 0, _, _, _, _ => none
  | fu + 1, a0, x1, x2, M => if (0 : Int) ≤ 1 ∧ (1 : Int) < 1190 then if M (a0 + 1) (1 : Int).toNat ≤ x2 then (some (x1, M)) else ((fX9_isReady g a0 x2 M).bind fun x_5 => if x_5 = 0 then (fX9_hungriest_51 g (fX9_hungriest_9 g fu) a0 x1 x2 M) else (if x1 = (-1) then (fX9_hungriest_49 g (fX9_hungriest_9 g fu) a0 x2 M) else ((fX9_of g a0 x2 7 M).bind fun x_9 => (fX9_of g a0 x1 7 M).bind fun x_11 => if x_11 ≤ x_9 then (fX9_hungriest_51 g (fX9_hungriest_9 g fu) a0 x1 x2 M) else (fX9_hungriest_49 g (fX9_hungriest_9 g fu) a0 x2 M)))) else none
set_option maxHeartbeats 4000000 in
set_option maxRecDepth 100000 in
theorem wX9_hungriest_9 {w : gW} {n : Nat} {Rm : Nat → Nat → Nat} {g : Nat → Nat} (hLC : gLC g n Rm) {p : Program} {l : Launch} {e : Env} {s : State} {m : MethodId} {args : Array Value} {below : List Frame} {meth : Method} {c : Code} (hM : gMC w p l s m args meth c cX9_hungriest 3 RX9 (some .int))  : ∀ (fu : Nat), ∀ (a0 : Nat) (x1 : Int) (x2 : Int) (M : gMem) (r : (Int × gMem)) (hg0 : g a0 = 9) (hr1 : gRI x1) (hr2 : gRI x2) (hf : fX9_hungriest_9 g fu a0 x1 x2 M = some r) (H : Heap) (locs : List Loc) (ls : Array Slot) (hH : gH w n Rm M s H locs) (hl : lv_has ls 3 [(0, .ref (w.1 + a0)), (1, .int (gi x1)), (2, .int (gi x2))]), W p l e { frames := 3, cells := 0, slots := 0, locals := 103 } s m args below meth c H locs 0 0 (gQ w n Rm below args s 0 0 (.inr (some (.int (gi r.1)))) r.2 (gRI r.1)) (F0 m 9 ls []) := by
  intro fu
  induction fu with
  | zero =>
    intro a0 x1 x2 M r hg0 hr1 hr2 hf H locs ls hH hl
    exact absurd hf (by simp [fX9_hungriest_9])
  | succ fu ih =>
    intro a0 x1 x2 M r hg0 hr1 hr2 hf H locs ls hH hl
    unfold fX9_hungriest_9 at hf
    refine lv_iload_n hM.fx.1 hM.fx.2.1 dX9_hungriest_9 rfl (lv_at hl 2 rfl) ?_
    refine lv_aload_n hM.fx.1 hM.fx.2.1 dX9_hungriest_10 rfl (lv_at hl 0 rfl) ?_
    refine r_getR hM.fx hM.kf hH hLC fl_X9_7 hg0 gch_9_0 dX9_hungriest_11 ?_
    refine lv_iconst (v := gi (1)) hM.fx.1 hM.fx.2.1 dX9_hungriest_14 rfl ?_
    obtain ⟨g_1, hf⟩ := gif hf
    refine r_iald hM.fx hM.kf hH (hLC.in (hLC.ch hg0 (by decide) gch_9_0) (by decide)) (⟨by decide, by decide⟩ : gAr 19056 0) (gcR (k := 1) (by decide)) g_1 dX9_hungriest_15 ?_
    have hr_2 := hH.2.2.i (k := (1 : Int).toNat) (hLC.in (hLC.ch hg0 (by decide) gch_9_0) (by decide)).2.2 (glg_a (⟨by decide, by decide⟩ : gAr 19056 0))
    refine r_icmp_ge (tgt := 57) hM.fx hr2 hr_2 dX9_hungriest_16 (by decide) (fun h_3 => ?_) (fun h_3 => ?_)
    · have hf := gpos h_3 hf
      refine lv_iload_n hM.fx.1 hM.fx.2.1 dX9_hungriest_57 rfl (lv_at hl 1 rfl) ?_
      obtain rfl := Option.some.inj hf
      exact r_iret hM hH hr1 ⟨(Nat.le_of_ble_eq_true rfl), (Nat.le_of_ble_eq_true rfl)⟩ dX9_hungriest_58
    · have hf := gneg' h_3 hf
      refine lv_aload_n hM.fx.1 hM.fx.2.1 dX9_hungriest_19 rfl (lv_at hl 0 rfl) ?_
      refine lv_iload_n hM.fx.1 hM.fx.2.1 dX9_hungriest_20 rfl (lv_at hl 2 rfl) ?_
      obtain ⟨x_5, ex_5, hf⟩ := gbd hf
      refine r_go1 hH rfl (r_runV (As := [.int (gi x2)]) hM hH cv_X9_252 (mX9_isReady hLC hM.ns hg0 hr2 ex_5) (hLC.in hg0 (by decide)) (by decide) rfl rfl rfl hl.1 rfl (Nat.le_of_ble_eq_true rfl) ⟨(Nat.le_of_ble_eq_true rfl), (Nat.le_of_ble_eq_true rfl)⟩ ⟨(Nat.le_of_ble_eq_true rfl), (Nat.le_of_ble_eq_true rfl)⟩ dX9_hungriest_21) (fun hp_4 H locs hH => ?_)
      refine r_if_eq (tgt := 51) hM.fx (gz_r hp_4) dX9_hungriest_24 (by decide) (fun h_6 => ?_) (fun h_6 => ?_)
      · have hf := gpos h_6 hf
        exact wX9_hungriest_51 hLC hM (fX9_hungriest_9 g fu) ih  _ _ _ _ _ hg0 hr1 hr2 hf _ _ _ hH hl
      · have hf := gneg' h_6 hf
        refine lv_iload_n hM.fx.1 hM.fx.2.1 dX9_hungriest_27 rfl (lv_at hl 1 rfl) ?_
        refine lv_iconst (v := gi (-1)) hM.fx.1 hM.fx.2.1 dX9_hungriest_28 rfl ?_
        refine r_icmp_eq (tgt := 49) hM.fx hr1 (gcR (k := -1) (by decide)) dX9_hungriest_29 (by decide) (fun h_7 => ?_) (fun h_7 => ?_)
        · have hf := gpos h_7 hf
          exact wX9_hungriest_49 hLC hM (fX9_hungriest_9 g fu) ih  _ _ _ _ hg0 hr2 hf _ _ _ hH (lv_sub hl [0, 2] rfl)
        · have hf := gneg' h_7 hf
          refine lv_aload_n hM.fx.1 hM.fx.2.1 dX9_hungriest_32 rfl (lv_at hl 0 rfl) ?_
          refine lv_iload_n hM.fx.1 hM.fx.2.1 dX9_hungriest_33 rfl (lv_at hl 2 rfl) ?_
          refine lv_bipush (v := gi (7)) hM.fx.1 hM.fx.2.1 dX9_hungriest_34 (by decide) ?_
          obtain ⟨x_9, ex_9, hf⟩ := gbd hf
          refine r_go1 hH rfl (r_runV (As := [.int (gi x2), .int (gi 7)]) hM hH cv_X9_135 (mX9_of hLC hM.ns hg0 hr2 (gcR (k := 7) (by decide)) ex_9) (hLC.in hg0 (by decide)) (by decide) rfl rfl rfl hl.1 rfl (Nat.le_of_ble_eq_true rfl) ⟨(Nat.le_of_ble_eq_true rfl), (Nat.le_of_ble_eq_true rfl)⟩ ⟨(Nat.le_of_ble_eq_true rfl), (Nat.le_of_ble_eq_true rfl)⟩ dX9_hungriest_36) (fun hp_8 H locs hH => ?_)
          refine lv_aload_n hM.fx.1 hM.fx.2.1 dX9_hungriest_39 rfl (lv_at hl 0 rfl) ?_
          refine lv_iload_n hM.fx.1 hM.fx.2.1 dX9_hungriest_40 rfl (lv_at hl 1 rfl) ?_
          refine lv_bipush (v := gi (7)) hM.fx.1 hM.fx.2.1 dX9_hungriest_41 (by decide) ?_
          obtain ⟨x_11, ex_11, hf⟩ := gbd hf
          refine r_go1 hH rfl (r_runV (As := [.int (gi x1), .int (gi 7)]) hM hH cv_X9_135 (mX9_of hLC hM.ns hg0 hr1 (gcR (k := 7) (by decide)) ex_11) (hLC.in hg0 (by decide)) (by decide) rfl rfl rfl hl.1 rfl (Nat.le_of_ble_eq_true rfl) ⟨(Nat.le_of_ble_eq_true rfl), (Nat.le_of_ble_eq_true rfl)⟩ ⟨(Nat.le_of_ble_eq_true rfl), (Nat.le_of_ble_eq_true rfl)⟩ dX9_hungriest_43) (fun hp_10 H locs hH => ?_)
          refine r_icmp_ge (tgt := 51) hM.fx hp_8 hp_10 dX9_hungriest_46 (by decide) (fun h_12 => ?_) (fun h_12 => ?_)
          · have hf := gpos h_12 hf
            exact wX9_hungriest_51 hLC hM (fX9_hungriest_9 g fu) ih  _ _ _ _ _ hg0 hr1 hr2 hf _ _ _ hH hl
          · have hf := gneg' h_12 hf
            exact wX9_hungriest_49 hLC hM (fX9_hungriest_9 g fu) ih  _ _ _ _ hg0 hr2 hf _ _ _ hH (lv_sub hl [0, 2] rfl)
def fX9_hungriest (g : Nat → Nat) (a0 : Nat) (M : gMem) : Option (Int × gMem) :=
  gst (gup M a0 7 0) fun M_1 => gst ((-1)) fun x_2 => fX9_hungriest_9 g gF a0 x_2 0 M_1
set_option maxHeartbeats 4000000 in
set_option maxRecDepth 100000 in
theorem mX9_hungriest {w : gW} {n : Nat} {Rm : Nat → Nat → Nat} {g : Nat → Nat} (hLC : gLC g n Rm) {l : Launch} (hl9 : l.stackTraces = false) {a0 : Nat} {M : gMem} {r : (Int × gMem)} (hg0 : g a0 = 9) (hf : fX9_hungriest g a0 M = some r) : gMT w n Rm l yX9_hungriest cX9_hungriest 3 (some .int) 3 103 0 0 [.ref (w.1 + a0)] M (.inr (some (.int (gi r.1)))) r.2 (gRI r.1) := by
  unfold fX9_hungriest at hf
  refine gMT.of hl9 (by decide +kernel) ((Nat.le_of_ble_eq_true rfl)) ?_
  intro p e s m below meth c hM hH ls hl
  have hM : gMC w p l s m ([.ref (w.1 + a0)] : List Value).toArray meth c cX9_hungriest 3 RX9 (some .int) := hM
  have hl : lv_has ls 3 [(0, .ref (w.1 + a0))] := hl
  refine lv_aload_n hM.fx.1 hM.fx.2.1 dX9_hungriest_0 rfl (lv_at hl 0 rfl) ?_
  refine lv_iconst (v := gi (0)) hM.fx.1 hM.fx.2.1 dX9_hungriest_1 rfl ?_
  refine r_putI hM.fx hM.kf hH fp_X9_46 (hLC.in hg0 (by decide)) (gcR (k := 0) (by decide)) dX9_hungriest_2 (fun H locs hH => ?_)
  obtain ⟨M_1, eM_1, hf⟩ := gst_s hf
  rw [← eM_1] at hH
  refine lv_iconst (v := gi (-1)) hM.fx.1 hM.fx.2.1 dX9_hungriest_5 rfl ?_
  obtain ⟨x_2, ex_2, hf⟩ := gst_s hf
  refine W.eq (g2 := F0 m _ ls (.int (gi x_2) :: _)) (by rw [ex_2]) ?_
  have hx_2 : gRI x_2 := by rw [ex_2]; exact (gcR (k := -1) (by decide))
  refine lv_istore_n (lv' := [(1, .int (gi x_2)), (0, .ref (w.1 + a0))]) hM.fx.1 hM.fx.2.1 dX9_hungriest_6 rfl hl (by decide) rfl (fun ls hl => ?_)
  refine lv_iconst (v := gi (0)) hM.fx.1 hM.fx.2.1 dX9_hungriest_7 rfl ?_
  refine lv_istore_n (lv' := [(2, .int (gi 0)), (1, .int (gi x_2)), (0, .ref (w.1 + a0))]) hM.fx.1 hM.fx.2.1 dX9_hungriest_8 rfl hl (by decide) rfl (fun ls hl => ?_)
  exact wX9_hungriest_9 hLC hM  gF _ _ _ _ _ hg0 hx_2 (gcR (k := 0) (by decide)) hf _ _ _ hH (lv_sub hl [2, 1, 0] rfl)
def fX9_waitShare (g : Nat → Nat) (a0 : Nat) (M : gMem) : Option (UInt64 × gMem) :=
  gst (gup M a0 7 0) fun M_1 => (fX9_sumOf g a0 8 M_1).bind fun x_3 => (fX9_sumOf g a0 7 M_1).bind fun x_5 => gst (gwi (x_3 + x_5)) fun x_6 => if x_6 = 0 then (some (FP.dconst0, M_1)) else (if (FP.ddiv (FP.i2d (gi x_3)) (FP.i2d (gi x_6))) &&& 0x7fffffffffffffff ≤ 0x7ff0000000000000 then some (FP.ddiv (FP.i2d (gi x_3)) (FP.i2d (gi x_6)), M_1) else none)
set_option maxHeartbeats 4000000 in
set_option maxRecDepth 100000 in
theorem mX9_waitShare {w : gW} {n : Nat} {Rm : Nat → Nat → Nat} {g : Nat → Nat} (hLC : gLC g n Rm) {l : Launch} (hl9 : l.stackTraces = false) {a0 : Nat} {M : gMem} {r : (UInt64 × gMem)} (hg0 : g a0 = 9) (hf : fX9_waitShare g a0 M = some r) : gMT w n Rm l yX9_waitShare cX9_waitShare 3 (some .double) 3 105 0 0 [.ref (w.1 + a0)] M (.inr (some (.double r.1))) r.2 (True) := by
  unfold fX9_waitShare at hf
  refine gMT.of hl9 (by decide +kernel) ((Nat.le_of_ble_eq_true rfl)) ?_
  intro p e s m below meth c hM hH ls hl
  have hM : gMC w p l s m ([.ref (w.1 + a0)] : List Value).toArray meth c cX9_waitShare 3 RX9 (some .double) := hM
  have hl : lv_has ls 3 [(0, .ref (w.1 + a0))] := hl
  refine lv_aload_n hM.fx.1 hM.fx.2.1 dX9_waitShare_0 rfl (lv_at hl 0 rfl) ?_
  refine lv_iconst (v := gi (0)) hM.fx.1 hM.fx.2.1 dX9_waitShare_1 rfl ?_
  refine r_putI hM.fx hM.kf hH fp_X9_46 (hLC.in hg0 (by decide)) (gcR (k := 0) (by decide)) dX9_waitShare_2 (fun H locs hH => ?_)
  obtain ⟨M_1, eM_1, hf⟩ := gst_s hf
  rw [← eM_1] at hH
  refine lv_aload_n hM.fx.1 hM.fx.2.1 dX9_waitShare_5 rfl (lv_at hl 0 rfl) ?_
  refine lv_bipush (v := gi (8)) hM.fx.1 hM.fx.2.1 dX9_waitShare_6 (by decide) ?_
  obtain ⟨x_3, ex_3, hf⟩ := gbd hf
  refine r_go1 hH rfl (r_runV (As := [.int (gi 8)]) hM hH cv_X9_316 (mX9_sumOf hLC hM.ns hg0 (gcR (k := 8) (by decide)) ex_3) (hLC.in hg0 (by decide)) (by decide) rfl rfl rfl hl.1 rfl (Nat.le_of_ble_eq_true rfl) ⟨(Nat.le_of_ble_eq_true rfl), (Nat.le_of_ble_eq_true rfl)⟩ ⟨(Nat.le_of_ble_eq_true rfl), (Nat.le_of_ble_eq_true rfl)⟩ dX9_waitShare_8) (fun hp_2 H locs hH => ?_)
  refine lv_istore_n (lv' := [(1, .int (gi x_3)), (0, .ref (w.1 + a0))]) hM.fx.1 hM.fx.2.1 dX9_waitShare_11 rfl hl (by decide) rfl (fun ls hl => ?_)
  refine lv_iload_n hM.fx.1 hM.fx.2.1 dX9_waitShare_12 rfl (lv_at hl 0 rfl) ?_
  refine lv_aload_n hM.fx.1 hM.fx.2.1 dX9_waitShare_13 rfl (lv_at hl 1 rfl) ?_
  refine lv_bipush (v := gi (7)) hM.fx.1 hM.fx.2.1 dX9_waitShare_14 (by decide) ?_
  obtain ⟨x_5, ex_5, hf⟩ := gbd hf
  refine r_go1 hH rfl (r_runV (As := [.int (gi 7)]) hM hH cv_X9_316 (mX9_sumOf hLC hM.ns hg0 (gcR (k := 7) (by decide)) ex_5) (hLC.in hg0 (by decide)) (by decide) rfl rfl rfl hl.1 rfl (Nat.le_of_ble_eq_true rfl) ⟨(Nat.le_of_ble_eq_true rfl), (Nat.le_of_ble_eq_true rfl)⟩ ⟨(Nat.le_of_ble_eq_true rfl), (Nat.le_of_ble_eq_true rfl)⟩ dX9_waitShare_16) (fun hp_4 H locs hH => ?_)
  refine r_iadd hM.fx dX9_waitShare_19 ?_
  obtain ⟨x_6, ex_6, hf⟩ := gst_s hf
  refine W.eq (g2 := F0 m _ ls (.int (gi x_6) :: _)) (by rw [ex_6]) ?_
  have hx_6 : gRI x_6 := by rw [ex_6]; exact (gwi_r _)
  refine lv_istore_n (lv' := [(2, .int (gi x_6)), (1, .int (gi x_3)), (0, .ref (w.1 + a0))]) hM.fx.1 hM.fx.2.1 dX9_waitShare_20 rfl hl (by decide) rfl (fun ls hl => ?_)
  refine lv_iload_n hM.fx.1 hM.fx.2.1 dX9_waitShare_21 rfl (lv_at hl 0 rfl) ?_
  refine r_if_ne (tgt := 29) hM.fx hx_6 dX9_waitShare_22 (by decide) (fun h_7 => ?_) (fun h_7 => ?_)
  · have hf := gneg' h_7 hf
    refine lv_iload_n hM.fx.1 hM.fx.2.1 dX9_waitShare_29 rfl (lv_at hl 1 rfl) ?_
    refine lv_i2d hM.fx.1 hM.fx.2.1 dX9_waitShare_30 ?_
    refine lv_iload_n hM.fx.1 hM.fx.2.1 dX9_waitShare_31 rfl (lv_at hl 0 rfl) ?_
    refine lv_i2d hM.fx.1 hM.fx.2.1 dX9_waitShare_32 ?_
    obtain ⟨g_8, hf⟩ := gif hf
    refine lv_ddiv hM.fx.1 hM.fx.2.1 dX9_waitShare_33 g_8 ?_
    obtain rfl := Option.some.inj hf
    exact r_dret hM hH trivial ⟨(Nat.le_of_ble_eq_true rfl), (Nat.le_of_ble_eq_true rfl)⟩ dX9_waitShare_34
  · have hf := gpos h_7 hf
    refine lv_dconst0 hM.fx.1 hM.fx.2.1 dX9_waitShare_25 ?_
    refine lv_goto (tgt := 34) hM.fx.1 hM.fx.2.1 dX9_waitShare_26 (by decide) ?_
    obtain rfl := Option.some.inj hf
    exact r_dret hM hH trivial ⟨(Nat.le_of_ble_eq_true rfl), (Nat.le_of_ble_eq_true rfl)⟩ dX9_waitShare_34
def fX9_fullness_9 (g : Nat → Nat)  : Nat → Nat → UInt32 → Int → gMem → Option (UInt32 × gMem)
  | 0, _, _, _, _ => none
  | fu + 1, a0, x1, x2, M => if (0 : Int) ≤ 2 ∧ (2 : Int) < 1190 then if M (a0 + 1) (2 : Int).toNat ≤ x2 then (if (0 : Int) ≤ 2 ∧ (2 : Int) < 1190 then if M (a0 + 1) (2 : Int).toNat = 0 then (some (FP.fconst0, M)) else (if (0 : Int) ≤ 2 ∧ (2 : Int) < 1190 then if (FP.fdiv x1 (FP.i2f (gi (M (a0 + 1) (2 : Int).toNat)))) &&& 0x7fffffff ≤ 0x7f800000 then some (FP.fdiv x1 (FP.i2f (gi (M (a0 + 1) (2 : Int).toNat))), M) else none else none) else none) else ((fX9_ofStack g a0 x2 1 M).bind fun x_11 => (fX9_ofStack g a0 x2 0 M).bind fun x_13 => if (FP.fdiv (FP.i2f (gi x_11)) (FP.i2f (gi x_13))) &&& 0x7fffffff ≤ 0x7f800000 then if (FP.fadd x1 (FP.fdiv (FP.i2f (gi x_11)) (FP.i2f (gi x_13)))) &&& 0x7fffffff ≤ 0x7f800000 then gst (gwi (x2 + 1)) fun x_16 => fX9_fullness_9 g fu a0 (FP.fadd x1 (FP.fdiv (FP.i2f (gi x_11)) (FP.i2f (gi x_13)))) x_16 M else none else none) else none
set_option maxHeartbeats 4000000 in
set_option maxRecDepth 100000 in
theorem wX9_fullness_9 {w : gW} {n : Nat} {Rm : Nat → Nat → Nat} {g : Nat → Nat} (hLC : gLC g n Rm) {p : Program} {l : Launch} {e : Env} {s : State} {m : MethodId} {args : Array Value} {below : List Frame} {meth : Method} {c : Code} (hM : gMC w p l s m args meth c cX9_fullness 3 RX9 (some .float))  : ∀ (fu : Nat), ∀ (a0 : Nat) (x1 : UInt32) (x2 : Int) (M : gMem) (r : (UInt32 × gMem)) (hg0 : g a0 = 9) (hr2 : gRI x2) (hf : fX9_fullness_9 g fu a0 x1 x2 M = some r) (H : Heap) (locs : List Loc) (ls : Array Slot) (hH : gH w n Rm M s H locs) (hl : lv_has ls 3 [(0, .ref (w.1 + a0)), (1, .float x1), (2, .int (gi x2))]), W p l e { frames := 2, cells := 0, slots := 0, locals := 82 } s m args below meth c H locs 0 0 (gQ w n Rm below args s 0 0 (.inr (some (.float r.1))) r.2 (True)) (F0 m 9 ls []) := by
  intro fu
  induction fu with
  | zero =>
    intro a0 x1 x2 M r hg0 hr2 hf H locs ls hH hl
    exact absurd hf (by simp [fX9_fullness_9])
  | succ fu ih =>
    intro a0 x1 x2 M r hg0 hr2 hf H locs ls hH hl
    unfold fX9_fullness_9 at hf
    refine lv_iload_n hM.fx.1 hM.fx.2.1 dX9_fullness_9 rfl (lv_at hl 2 rfl) ?_
    refine lv_aload_n hM.fx.1 hM.fx.2.1 dX9_fullness_10 rfl (lv_at hl 0 rfl) ?_
    refine r_getR hM.fx hM.kf hH hLC fl_X9_7 hg0 gch_9_0 dX9_fullness_11 ?_
    refine lv_iconst (v := gi (2)) hM.fx.1 hM.fx.2.1 dX9_fullness_14 rfl ?_
    obtain ⟨g_1, hf⟩ := gif hf
    refine r_iald hM.fx hM.kf hH (hLC.in (hLC.ch hg0 (by decide) gch_9_0) (by decide)) (⟨by decide, by decide⟩ : gAr 19056 0) (gcR (k := 2) (by decide)) g_1 dX9_fullness_15 ?_
    have hr_2 := hH.2.2.i (k := (2 : Int).toNat) (hLC.in (hLC.ch hg0 (by decide) gch_9_0) (by decide)).2.2 (glg_a (⟨by decide, by decide⟩ : gAr 19056 0))
    refine r_icmp_ge (tgt := 43) hM.fx hr2 hr_2 dX9_fullness_16 (by decide) (fun h_3 => ?_) (fun h_3 => ?_)
    · have hf := gpos h_3 hf
      refine lv_aload_n hM.fx.1 hM.fx.2.1 dX9_fullness_43 rfl (lv_at hl 0 rfl) ?_
      refine r_getR hM.fx hM.kf hH hLC fl_X9_7 hg0 gch_9_0 dX9_fullness_44 ?_
      refine lv_iconst (v := gi (2)) hM.fx.1 hM.fx.2.1 dX9_fullness_47 rfl ?_
      obtain ⟨g_4, hf⟩ := gif hf
      refine r_iald hM.fx hM.kf hH (hLC.in (hLC.ch hg0 (by decide) gch_9_0) (by decide)) (⟨by decide, by decide⟩ : gAr 19056 0) (gcR (k := 2) (by decide)) g_4 dX9_fullness_48 ?_
      have hr_5 := hH.2.2.i (k := (2 : Int).toNat) (hLC.in (hLC.ch hg0 (by decide) gch_9_0) (by decide)).2.2 (glg_a (⟨by decide, by decide⟩ : gAr 19056 0))
      refine r_if_ne (tgt := 56) hM.fx hr_5 dX9_fullness_49 (by decide) (fun h_6 => ?_) (fun h_6 => ?_)
      · have hf := gneg' h_6 hf
        refine lv_fload_n hM.fx.1 hM.fx.2.1 dX9_fullness_56 rfl (lv_at hl 1 rfl) ?_
        refine lv_aload_n hM.fx.1 hM.fx.2.1 dX9_fullness_57 rfl (lv_at hl 0 rfl) ?_
        refine r_getR hM.fx hM.kf hH hLC fl_X9_7 hg0 gch_9_0 dX9_fullness_58 ?_
        refine lv_iconst (v := gi (2)) hM.fx.1 hM.fx.2.1 dX9_fullness_61 rfl ?_
        obtain ⟨g_7, hf⟩ := gif hf
        refine r_iald hM.fx hM.kf hH (hLC.in (hLC.ch hg0 (by decide) gch_9_0) (by decide)) (⟨by decide, by decide⟩ : gAr 19056 0) (gcR (k := 2) (by decide)) g_7 dX9_fullness_62 ?_
        have hr_8 := hH.2.2.i (k := (2 : Int).toNat) (hLC.in (hLC.ch hg0 (by decide) gch_9_0) (by decide)).2.2 (glg_a (⟨by decide, by decide⟩ : gAr 19056 0))
        refine lv_i2f hM.fx.1 hM.fx.2.1 dX9_fullness_63 ?_
        obtain ⟨g_9, hf⟩ := gif hf
        refine lv_fdiv hM.fx.1 hM.fx.2.1 dX9_fullness_64 g_9 ?_
        obtain rfl := Option.some.inj hf
        exact r_fret hM hH trivial ⟨(Nat.le_of_ble_eq_true rfl), (Nat.le_of_ble_eq_true rfl)⟩ dX9_fullness_65
      · have hf := gpos h_6 hf
        refine lv_fconst0 hM.fx.1 hM.fx.2.1 dX9_fullness_52 ?_
        refine lv_goto (tgt := 65) hM.fx.1 hM.fx.2.1 dX9_fullness_53 (by decide) ?_
        obtain rfl := Option.some.inj hf
        exact r_fret hM hH trivial ⟨(Nat.le_of_ble_eq_true rfl), (Nat.le_of_ble_eq_true rfl)⟩ dX9_fullness_65
    · have hf := gneg' h_3 hf
      refine lv_fload_n hM.fx.1 hM.fx.2.1 dX9_fullness_19 rfl (lv_at hl 1 rfl) ?_
      refine lv_aload_n hM.fx.1 hM.fx.2.1 dX9_fullness_20 rfl (lv_at hl 0 rfl) ?_
      refine lv_iload_n hM.fx.1 hM.fx.2.1 dX9_fullness_21 rfl (lv_at hl 2 rfl) ?_
      refine lv_iconst (v := gi (1)) hM.fx.1 hM.fx.2.1 dX9_fullness_22 rfl ?_
      obtain ⟨x_11, ex_11, hf⟩ := gbd hf
      refine r_go1 hH rfl (r_runV (As := [.int (gi x2), .int (gi 1)]) hM hH cv_X9_232 (mX9_ofStack hLC hM.ns hg0 hr2 (gcR (k := 1) (by decide)) ex_11) (hLC.in hg0 (by decide)) (by decide) rfl rfl rfl hl.1 rfl (Nat.le_of_ble_eq_true rfl) ⟨(Nat.le_of_ble_eq_true rfl), (Nat.le_of_ble_eq_true rfl)⟩ ⟨(Nat.le_of_ble_eq_true rfl), (Nat.le_of_ble_eq_true rfl)⟩ dX9_fullness_23) (fun hp_10 H locs hH => ?_)
      refine lv_i2f hM.fx.1 hM.fx.2.1 dX9_fullness_26 ?_
      refine lv_aload_n hM.fx.1 hM.fx.2.1 dX9_fullness_27 rfl (lv_at hl 0 rfl) ?_
      refine lv_iload_n hM.fx.1 hM.fx.2.1 dX9_fullness_28 rfl (lv_at hl 2 rfl) ?_
      refine lv_iconst (v := gi (0)) hM.fx.1 hM.fx.2.1 dX9_fullness_29 rfl ?_
      obtain ⟨x_13, ex_13, hf⟩ := gbd hf
      refine r_go1 hH rfl (r_runV (As := [.int (gi x2), .int (gi 0)]) hM hH cv_X9_232 (mX9_ofStack hLC hM.ns hg0 hr2 (gcR (k := 0) (by decide)) ex_13) (hLC.in hg0 (by decide)) (by decide) rfl rfl rfl hl.1 rfl (Nat.le_of_ble_eq_true rfl) ⟨(Nat.le_of_ble_eq_true rfl), (Nat.le_of_ble_eq_true rfl)⟩ ⟨(Nat.le_of_ble_eq_true rfl), (Nat.le_of_ble_eq_true rfl)⟩ dX9_fullness_30) (fun hp_12 H locs hH => ?_)
      refine lv_i2f hM.fx.1 hM.fx.2.1 dX9_fullness_33 ?_
      obtain ⟨g_14, hf⟩ := gif hf
      refine lv_fdiv hM.fx.1 hM.fx.2.1 dX9_fullness_34 g_14 ?_
      obtain ⟨g_15, hf⟩ := gif hf
      refine lv_fadd hM.fx.1 hM.fx.2.1 dX9_fullness_35 g_15 ?_
      refine lv_fstore_n (lv' := [(1, .float (FP.fadd x1 (FP.fdiv (FP.i2f (gi x_11)) (FP.i2f (gi x_13))))), (0, .ref (w.1 + a0)), (2, .int (gi x2))]) hM.fx.1 hM.fx.2.1 dX9_fullness_36 rfl hl (by decide) rfl (fun ls hl => ?_)
      obtain ⟨x_16, ex_16, hf⟩ := gst_s hf
      have hx_16 : gRI x_16 := by rw [ex_16]; exact gwi_r _
      refine r_iinc (lv' := [(2, .int (gi x_16)), (1, .float (FP.fadd x1 (FP.fdiv (FP.i2f (gi x_11)) (FP.i2f (gi x_13))))), (0, .ref (w.1 + a0))]) hM.fx dX9_fullness_37 hl (k := 2) rfl (by decide) (by rw [ex_16]; rfl) (fun ls hl => ?_)
      refine lv_goto (tgt := 9) hM.fx.1 hM.fx.2.1 dX9_fullness_40 (by decide) ?_
      exact ih _ _ _ _ _ hg0 hx_16 hf _ _ _ hH (lv_sub hl [2, 1, 0] rfl)
def fX9_fullness (g : Nat → Nat) (a0 : Nat) (M : gMem) : Option (UInt32 × gMem) :=
  gst (gup M a0 7 0) fun M_1 => fX9_fullness_9 g gF a0 FP.fconst0 0 M_1
set_option maxHeartbeats 4000000 in
set_option maxRecDepth 100000 in
theorem mX9_fullness {w : gW} {n : Nat} {Rm : Nat → Nat → Nat} {g : Nat → Nat} (hLC : gLC g n Rm) {l : Launch} (hl9 : l.stackTraces = false) {a0 : Nat} {M : gMem} {r : (UInt32 × gMem)} (hg0 : g a0 = 9) (hf : fX9_fullness g a0 M = some r) : gMT w n Rm l yX9_fullness cX9_fullness 3 (some .float) 2 82 0 0 [.ref (w.1 + a0)] M (.inr (some (.float r.1))) r.2 (True) := by
  unfold fX9_fullness at hf
  refine gMT.of hl9 (by decide +kernel) ((Nat.le_of_ble_eq_true rfl)) ?_
  intro p e s m below meth c hM hH ls hl
  have hM : gMC w p l s m ([.ref (w.1 + a0)] : List Value).toArray meth c cX9_fullness 3 RX9 (some .float) := hM
  have hl : lv_has ls 3 [(0, .ref (w.1 + a0))] := hl
  refine lv_aload_n hM.fx.1 hM.fx.2.1 dX9_fullness_0 rfl (lv_at hl 0 rfl) ?_
  refine lv_iconst (v := gi (0)) hM.fx.1 hM.fx.2.1 dX9_fullness_1 rfl ?_
  refine r_putI hM.fx hM.kf hH fp_X9_46 (hLC.in hg0 (by decide)) (gcR (k := 0) (by decide)) dX9_fullness_2 (fun H locs hH => ?_)
  obtain ⟨M_1, eM_1, hf⟩ := gst_s hf
  rw [← eM_1] at hH
  refine lv_fconst0 hM.fx.1 hM.fx.2.1 dX9_fullness_5 ?_
  refine lv_fstore_n (lv' := [(1, .float FP.fconst0), (0, .ref (w.1 + a0))]) hM.fx.1 hM.fx.2.1 dX9_fullness_6 rfl hl (by decide) rfl (fun ls hl => ?_)
  refine lv_iconst (v := gi (0)) hM.fx.1 hM.fx.2.1 dX9_fullness_7 rfl ?_
  refine lv_istore_n (lv' := [(2, .int (gi 0)), (1, .float FP.fconst0), (0, .ref (w.1 + a0))]) hM.fx.1 hM.fx.2.1 dX9_fullness_8 rfl hl (by decide) rfl (fun ls hl => ?_)
  exact wX9_fullness_9 hLC hM  gF _ _ _ _ _ hg0 (gcR (k := 0) (by decide)) hf _ _ _ hH (lv_sub hl [2, 1, 0] rfl)
def fX9_setsAside (g : Nat → Nat) (a0 : Nat) (M : gMem) : Option gMem :=
  (fX9_copies g (a0 + 3) 0 (a0 + 1) 0 M).bind fun M_2 => some M_2
set_option maxHeartbeats 4000000 in
set_option maxRecDepth 100000 in
theorem mX9_setsAside {w : gW} {n : Nat} {Rm : Nat → Nat → Nat} {g : Nat → Nat} (hLC : gLC g n Rm) {l : Launch} (hl9 : l.stackTraces = false) {a0 : Nat} {M : gMem} {r : gMem} (hg0 : g a0 = 9) (hf : fX9_setsAside g a0 M = some r) : gMT w n Rm l yX9_setsAside cX9_setsAside 1 none 2 84 0 0 [.ref (w.1 + a0)] M (.inr none) r True := by
  unfold fX9_setsAside at hf
  refine gMT.of hl9 (by decide +kernel) ((Nat.le_of_ble_eq_true rfl)) ?_
  intro p e s m below meth c hM hH ls hl
  have hM : gMC w p l s m ([.ref (w.1 + a0)] : List Value).toArray meth c cX9_setsAside 1 RX9 none := hM
  have hl : lv_has ls 1 [(0, .ref (w.1 + a0))] := hl
  refine lv_aload_n hM.fx.1 hM.fx.2.1 dX9_setsAside_0 rfl (lv_at hl 0 rfl) ?_
  refine r_getR hM.fx hM.kf hH hLC fl_X9_16 hg0 gch_9_2 dX9_setsAside_1 ?_
  refine lv_iconst (v := gi (0)) hM.fx.1 hM.fx.2.1 dX9_setsAside_4 rfl ?_
  refine lv_aload_n hM.fx.1 hM.fx.2.1 dX9_setsAside_5 rfl (lv_at hl 0 rfl) ?_
  refine r_getR hM.fx hM.kf hH hLC fl_X9_7 hg0 gch_9_0 dX9_setsAside_6 ?_
  refine lv_iconst (v := gi (0)) hM.fx.1 hM.fx.2.1 dX9_setsAside_9 rfl ?_
  obtain ⟨M_2, eM_2, hf⟩ := gbd hf
  refine r_go0 hH rfl (r_runS (As := [.ref (w.1 + (a0 + 3)), .int (gi 0), .ref (w.1 + (a0 + 1)), .int (gi 0)]) hM hH cs_X9_52 (mX9_copies hLC hM.ns (by rw [(hLC.ch hg0 (by decide) gch_9_2)]; exact (⟨by decide, by decide⟩ : gAr 19056 0)) (gcR (k := 0) (by decide)) (by rw [(hLC.ch hg0 (by decide) gch_9_0)]; exact (⟨by decide, by decide⟩ : gAr 19056 0)) (gcR (k := 0) (by decide)) eM_2) rfl hl.1 rfl (Nat.le_of_ble_eq_true rfl) ⟨(Nat.le_of_ble_eq_true rfl), (Nat.le_of_ble_eq_true rfl)⟩ ⟨(Nat.le_of_ble_eq_true rfl), (Nat.le_of_ble_eq_true rfl)⟩ dX9_setsAside_10) (fun hp_1 H locs hH => ?_)
  obtain rfl := Option.some.inj hf
  exact r_vret hM hH trivial ⟨(Nat.le_of_ble_eq_true rfl), (Nat.le_of_ble_eq_true rfl)⟩ dX9_setsAside_13
def fX9_putsBack (g : Nat → Nat) (a0 : Nat) (M : gMem) : Option gMem :=
  (fX9_copies g (a0 + 1) 0 (a0 + 3) 0 M).bind fun M_2 => some M_2
set_option maxHeartbeats 4000000 in
set_option maxRecDepth 100000 in
theorem mX9_putsBack {w : gW} {n : Nat} {Rm : Nat → Nat → Nat} {g : Nat → Nat} (hLC : gLC g n Rm) {l : Launch} (hl9 : l.stackTraces = false) {a0 : Nat} {M : gMem} {r : gMem} (hg0 : g a0 = 9) (hf : fX9_putsBack g a0 M = some r) : gMT w n Rm l yX9_putsBack cX9_putsBack 1 none 2 84 0 0 [.ref (w.1 + a0)] M (.inr none) r True := by
  unfold fX9_putsBack at hf
  refine gMT.of hl9 (by decide +kernel) ((Nat.le_of_ble_eq_true rfl)) ?_
  intro p e s m below meth c hM hH ls hl
  have hM : gMC w p l s m ([.ref (w.1 + a0)] : List Value).toArray meth c cX9_putsBack 1 RX9 none := hM
  have hl : lv_has ls 1 [(0, .ref (w.1 + a0))] := hl
  refine lv_aload_n hM.fx.1 hM.fx.2.1 dX9_putsBack_0 rfl (lv_at hl 0 rfl) ?_
  refine r_getR hM.fx hM.kf hH hLC fl_X9_7 hg0 gch_9_0 dX9_putsBack_1 ?_
  refine lv_iconst (v := gi (0)) hM.fx.1 hM.fx.2.1 dX9_putsBack_4 rfl ?_
  refine lv_aload_n hM.fx.1 hM.fx.2.1 dX9_putsBack_5 rfl (lv_at hl 0 rfl) ?_
  refine r_getR hM.fx hM.kf hH hLC fl_X9_16 hg0 gch_9_2 dX9_putsBack_6 ?_
  refine lv_iconst (v := gi (0)) hM.fx.1 hM.fx.2.1 dX9_putsBack_9 rfl ?_
  obtain ⟨M_2, eM_2, hf⟩ := gbd hf
  refine r_go0 hH rfl (r_runS (As := [.ref (w.1 + (a0 + 1)), .int (gi 0), .ref (w.1 + (a0 + 3)), .int (gi 0)]) hM hH cs_X9_52 (mX9_copies hLC hM.ns (by rw [(hLC.ch hg0 (by decide) gch_9_0)]; exact (⟨by decide, by decide⟩ : gAr 19056 0)) (gcR (k := 0) (by decide)) (by rw [(hLC.ch hg0 (by decide) gch_9_2)]; exact (⟨by decide, by decide⟩ : gAr 19056 0)) (gcR (k := 0) (by decide)) eM_2) rfl hl.1 rfl (Nat.le_of_ble_eq_true rfl) ⟨(Nat.le_of_ble_eq_true rfl), (Nat.le_of_ble_eq_true rfl)⟩ ⟨(Nat.le_of_ble_eq_true rfl), (Nat.le_of_ble_eq_true rfl)⟩ dX9_putsBack_10) (fun hp_1 H locs hH => ?_)
  obtain rfl := Option.some.inj hf
  exact r_vret hM hH trivial ⟨(Nat.le_of_ble_eq_true rfl), (Nat.le_of_ble_eq_true rfl)⟩ dX9_putsBack_13
def fX9_turnsLeft (g : Nat → Nat) (a0 : Nat) (M : gMem) : Option (Int × gMem) :=
  gst (gup M a0 7 0) fun M_1 => (fX9_setsAside g a0 M_1).bind fun M_3 => (fX9_goesOn g a0 300 M_3).bind fun q_5 => gst q_5.1 fun x_6 => (fX9_isOver g a0 q_5.2).bind fun x_8 => (fX9_putsBack g a0 q_5.2).bind fun M_10 => if x_8 = 0 then (some ((-1), M_10)) else (some (x_6, M_10))
set_option maxHeartbeats 4000000 in
set_option maxRecDepth 100000 in
theorem mX9_turnsLeft {w : gW} {n : Nat} {Rm : Nat → Nat → Nat} {g : Nat → Nat} (hLC : gLC g n Rm) {l : Launch} (hl9 : l.stackTraces = false) {a0 : Nat} {M : gMem} {r : (Int × gMem)} (hg0 : g a0 = 9) (hf : fX9_turnsLeft g a0 M = some r) : gMT w n Rm l yX9_turnsLeft cX9_turnsLeft 3 (some .int) 9 245 0 0 [.ref (w.1 + a0)] M (.inr (some (.int (gi r.1)))) r.2 (gRI r.1) := by
  unfold fX9_turnsLeft at hf
  refine gMT.of hl9 (by decide +kernel) ((Nat.le_of_ble_eq_true rfl)) ?_
  intro p e s m below meth c hM hH ls hl
  have hM : gMC w p l s m ([.ref (w.1 + a0)] : List Value).toArray meth c cX9_turnsLeft 3 RX9 (some .int) := hM
  have hl : lv_has ls 3 [(0, .ref (w.1 + a0))] := hl
  refine lv_aload_n hM.fx.1 hM.fx.2.1 dX9_turnsLeft_0 rfl (lv_at hl 0 rfl) ?_
  refine lv_iconst (v := gi (0)) hM.fx.1 hM.fx.2.1 dX9_turnsLeft_1 rfl ?_
  refine r_putI hM.fx hM.kf hH fp_X9_46 (hLC.in hg0 (by decide)) (gcR (k := 0) (by decide)) dX9_turnsLeft_2 (fun H locs hH => ?_)
  obtain ⟨M_1, eM_1, hf⟩ := gst_s hf
  rw [← eM_1] at hH
  refine lv_aload_n hM.fx.1 hM.fx.2.1 dX9_turnsLeft_5 rfl (lv_at hl 0 rfl) ?_
  obtain ⟨M_3, eM_3, hf⟩ := gbd hf
  refine r_go0 hH rfl (r_runV (As := []) hM hH cv_X9_341 (mX9_setsAside hLC hM.ns hg0 eM_3) (hLC.in hg0 (by decide)) (by decide) rfl rfl rfl hl.1 rfl (Nat.le_of_ble_eq_true rfl) ⟨(Nat.le_of_ble_eq_true rfl), (Nat.le_of_ble_eq_true rfl)⟩ ⟨(Nat.le_of_ble_eq_true rfl), (Nat.le_of_ble_eq_true rfl)⟩ dX9_turnsLeft_6) (fun hp_2 H locs hH => ?_)
  refine lv_aload_n hM.fx.1 hM.fx.2.1 dX9_turnsLeft_9 rfl (lv_at hl 0 rfl) ?_
  refine lv_sipush (v := gi (300)) hM.fx.1 hM.fx.2.1 dX9_turnsLeft_10 (by decide) ?_
  obtain ⟨q_5, eq_5, hf⟩ := gbd hf
  refine r_go1 hH rfl (r_runV (As := [.int (gi 300)]) hM hH cv_X9_344 (mX9_goesOn hLC hM.ns hg0 (gcR (k := 300) (by decide)) eq_5) (hLC.in hg0 (by decide)) (by decide) rfl rfl rfl hl.1 rfl (Nat.le_of_ble_eq_true rfl) ⟨(Nat.le_of_ble_eq_true rfl), (Nat.le_of_ble_eq_true rfl)⟩ ⟨(Nat.le_of_ble_eq_true rfl), (Nat.le_of_ble_eq_true rfl)⟩ dX9_turnsLeft_13) (fun hp_4 H locs hH => ?_)
  obtain ⟨x_6, ex_6, hf⟩ := gst_s hf
  refine W.eq (g2 := F0 m _ ls (.int (gi x_6) :: _)) (by rw [ex_6]) ?_
  have hx_6 : gRI x_6 := by rw [ex_6]; exact hp_4
  refine lv_istore_n (lv' := [(1, .int (gi x_6)), (0, .ref (w.1 + a0))]) hM.fx.1 hM.fx.2.1 dX9_turnsLeft_16 rfl hl (by decide) rfl (fun ls hl => ?_)
  refine lv_aload_n hM.fx.1 hM.fx.2.1 dX9_turnsLeft_17 rfl (lv_at hl 1 rfl) ?_
  obtain ⟨x_8, ex_8, hf⟩ := gbd hf
  refine r_go1 hH rfl (r_runV (As := []) hM hH cv_X9_310 (mX9_isOver hLC hM.ns hg0 ex_8) (hLC.in hg0 (by decide)) (by decide) rfl rfl rfl hl.1 rfl (Nat.le_of_ble_eq_true rfl) ⟨(Nat.le_of_ble_eq_true rfl), (Nat.le_of_ble_eq_true rfl)⟩ ⟨(Nat.le_of_ble_eq_true rfl), (Nat.le_of_ble_eq_true rfl)⟩ dX9_turnsLeft_18) (fun hp_7 H locs hH => ?_)
  refine lv_istore_n (lv' := [(2, .int (gi x_8)), (1, .int (gi x_6)), (0, .ref (w.1 + a0))]) hM.fx.1 hM.fx.2.1 dX9_turnsLeft_21 rfl hl (by decide) rfl (fun ls hl => ?_)
  refine lv_aload_n hM.fx.1 hM.fx.2.1 dX9_turnsLeft_22 rfl (lv_at hl 2 rfl) ?_
  obtain ⟨M_10, eM_10, hf⟩ := gbd hf
  refine r_go0 hH rfl (r_runV (As := []) hM hH cv_X9_347 (mX9_putsBack hLC hM.ns hg0 eM_10) (hLC.in hg0 (by decide)) (by decide) rfl rfl rfl hl.1 rfl (Nat.le_of_ble_eq_true rfl) ⟨(Nat.le_of_ble_eq_true rfl), (Nat.le_of_ble_eq_true rfl)⟩ ⟨(Nat.le_of_ble_eq_true rfl), (Nat.le_of_ble_eq_true rfl)⟩ dX9_turnsLeft_23) (fun hp_9 H locs hH => ?_)
  refine lv_iload_n hM.fx.1 hM.fx.2.1 dX9_turnsLeft_26 rfl (lv_at hl 0 rfl) ?_
  refine r_if_eq (tgt := 34) hM.fx (gz_r hp_7) dX9_turnsLeft_27 (by decide) (fun h_11 => ?_) (fun h_11 => ?_)
  · have hf := gpos h_11 hf
    refine lv_iconst (v := gi (-1)) hM.fx.1 hM.fx.2.1 dX9_turnsLeft_34 rfl ?_
    obtain rfl := Option.some.inj hf
    exact r_iret hM hH (gcR (k := -1) (by decide)) ⟨(Nat.le_of_ble_eq_true rfl), (Nat.le_of_ble_eq_true rfl)⟩ dX9_turnsLeft_35
  · have hf := gneg' h_11 hf
    refine lv_iload_n hM.fx.1 hM.fx.2.1 dX9_turnsLeft_30 rfl (lv_at hl 1 rfl) ?_
    refine lv_goto (tgt := 35) hM.fx.1 hM.fx.2.1 dX9_turnsLeft_31 (by decide) ?_
    obtain rfl := Option.some.inj hf
    exact r_iret hM hH hx_6 ⟨(Nat.le_of_ble_eq_true rfl), (Nat.le_of_ble_eq_true rfl)⟩ dX9_turnsLeft_35
def fX9_wouldSay_29 (g : Nat → Nat)  (a0 : Nat) (x1 : Int) (x2 : Int) (as0 : Nat) (xs1 : Int) (M : gMem) : Option (Int × gMem) :=
  gst (gup M as0 7 xs1) fun M_1 => if M_1 a0 7 ≤ 0 then ((fX9_setsAside g a0 M_1).bind fun M_5 => (fX9_goesOn g a0 x2 M_5).bind fun q_7 => gst (gup q_7.2 a0 17 q_7.1) fun M_8 => (fX9_saidOf g a0 x1 0 M_8).bind fun x_10 => (fX9_putsBack g a0 M_8).bind fun M_12 => some (x_10, M_12)) else (some (0, M_1))
set_option maxHeartbeats 4000000 in
set_option maxRecDepth 100000 in
theorem wX9_wouldSay_29 {w : gW} {n : Nat} {Rm : Nat → Nat → Nat} {g : Nat → Nat} (hLC : gLC g n Rm) {p : Program} {l : Launch} {e : Env} {s : State} {m : MethodId} {args : Array Value} {below : List Frame} {meth : Method} {c : Code} (hM : gMC w p l s m args meth c cX9_wouldSay 4 RX9 (some .int))  : ∀ (a0 : Nat) (x1 : Int) (x2 : Int) (as0 : Nat) (xs1 : Int) (M : gMem) (r : (Int × gMem)) (hg0 : g a0 = 9) (hr1 : gRI x1) (hr2 : gRI x2) (hgs0 : g as0 = 9) (hrs1 : gRI xs1) (hf : fX9_wouldSay_29 g a0 x1 x2 as0 xs1 M = some r) (H : Heap) (locs : List Loc) (ls : Array Slot) (hH : gH w n Rm M s H locs) (hl : lv_has ls 4 [(0, .ref (w.1 + a0)), (1, .int (gi x1)), (2, .int (gi x2))]), W p l e { frames := 9, cells := 0, slots := 0, locals := 245 } s m args below meth c H locs 0 0 (gQ w n Rm below args s 0 0 (.inr (some (.int (gi r.1)))) r.2 (gRI r.1)) (F0 m 29 ls [.int (gi xs1), .ref (w.1 + as0)]) := by
  intro a0 x1 x2 as0 xs1 M r hg0 hr1 hr2 hgs0 hrs1 hf H locs ls hH hl
  unfold fX9_wouldSay_29 at hf
  refine r_putI hM.fx hM.kf hH fp_X9_46 (hLC.in hgs0 (by decide)) hrs1 dX9_wouldSay_29 (fun H locs hH => ?_)
  obtain ⟨M_1, eM_1, hf⟩ := gst_s hf
  rw [← eM_1] at hH
  refine lv_aload_n hM.fx.1 hM.fx.2.1 dX9_wouldSay_32 rfl (lv_at hl 0 rfl) ?_
  refine r_getI hM.fx hM.kf hH fl_X9_46 (hLC.in hg0 (by decide)) dX9_wouldSay_33 ?_
  have hr_2 := hH.2.2.i (hLC.in hg0 (by decide)).2.2 (by decide : glg 9 7 = false)
  refine r_if_le (tgt := 41) hM.fx hr_2 dX9_wouldSay_36 (by decide) (fun h_3 => ?_) (fun h_3 => ?_)
  · have hf := gpos h_3 hf
    refine lv_aload_n hM.fx.1 hM.fx.2.1 dX9_wouldSay_41 rfl (lv_at hl 0 rfl) ?_
    obtain ⟨M_5, eM_5, hf⟩ := gbd hf
    refine r_go0 hH rfl (r_runV (As := []) hM hH cv_X9_341 (mX9_setsAside hLC hM.ns hg0 eM_5) (hLC.in hg0 (by decide)) (by decide) rfl rfl rfl hl.1 rfl (Nat.le_of_ble_eq_true rfl) ⟨(Nat.le_of_ble_eq_true rfl), (Nat.le_of_ble_eq_true rfl)⟩ ⟨(Nat.le_of_ble_eq_true rfl), (Nat.le_of_ble_eq_true rfl)⟩ dX9_wouldSay_42) (fun hp_4 H locs hH => ?_)
    refine lv_aload_n hM.fx.1 hM.fx.2.1 dX9_wouldSay_45 rfl (lv_at hl 0 rfl) ?_
    refine lv_aload_n hM.fx.1 hM.fx.2.1 dX9_wouldSay_46 rfl (lv_at hl 0 rfl) ?_
    refine lv_iload_n hM.fx.1 hM.fx.2.1 dX9_wouldSay_47 rfl (lv_at hl 2 rfl) ?_
    obtain ⟨q_7, eq_7, hf⟩ := gbd hf
    refine r_go1 hH rfl (r_runV (As := [.int (gi x2)]) hM hH cv_X9_344 (mX9_goesOn hLC hM.ns hg0 hr2 eq_7) (hLC.in hg0 (by decide)) (by decide) rfl rfl rfl hl.1 rfl (Nat.le_of_ble_eq_true rfl) ⟨(Nat.le_of_ble_eq_true rfl), (Nat.le_of_ble_eq_true rfl)⟩ ⟨(Nat.le_of_ble_eq_true rfl), (Nat.le_of_ble_eq_true rfl)⟩ dX9_wouldSay_48) (fun hp_6 H locs hH => ?_)
    refine r_putI hM.fx hM.kf hH fp_X9_350 (hLC.in hg0 (by decide)) hp_6 dX9_wouldSay_51 (fun H locs hH => ?_)
    obtain ⟨M_8, eM_8, hf⟩ := gst_s hf
    rw [← eM_8] at hH
    refine lv_aload_n hM.fx.1 hM.fx.2.1 dX9_wouldSay_54 rfl (lv_at hl 0 rfl) ?_
    refine lv_iload_n hM.fx.1 hM.fx.2.1 dX9_wouldSay_55 rfl (lv_at hl 1 rfl) ?_
    refine lv_iconst (v := gi (0)) hM.fx.1 hM.fx.2.1 dX9_wouldSay_56 rfl ?_
    obtain ⟨x_10, ex_10, hf⟩ := gbd hf
    refine r_go1 hH rfl (r_runV (As := [.int (gi x1), .int (gi 0)]) hM hH cv_X9_329 (mX9_saidOf hLC hM.ns hg0 hr1 (gcR (k := 0) (by decide)) ex_10) (hLC.in hg0 (by decide)) (by decide) rfl rfl rfl hl.1 rfl (Nat.le_of_ble_eq_true rfl) ⟨(Nat.le_of_ble_eq_true rfl), (Nat.le_of_ble_eq_true rfl)⟩ ⟨(Nat.le_of_ble_eq_true rfl), (Nat.le_of_ble_eq_true rfl)⟩ dX9_wouldSay_57) (fun hp_9 H locs hH => ?_)
    refine lv_istore_n (lv' := [(3, .int (gi x_10)), (0, .ref (w.1 + a0)), (1, .int (gi x1)), (2, .int (gi x2))]) hM.fx.1 hM.fx.2.1 dX9_wouldSay_60 rfl hl (by decide) rfl (fun ls hl => ?_)
    refine lv_aload_n hM.fx.1 hM.fx.2.1 dX9_wouldSay_61 rfl (lv_at hl 1 rfl) ?_
    obtain ⟨M_12, eM_12, hf⟩ := gbd hf
    refine r_go0 hH rfl (r_runV (As := []) hM hH cv_X9_347 (mX9_putsBack hLC hM.ns hg0 eM_12) (hLC.in hg0 (by decide)) (by decide) rfl rfl rfl hl.1 rfl (Nat.le_of_ble_eq_true rfl) ⟨(Nat.le_of_ble_eq_true rfl), (Nat.le_of_ble_eq_true rfl)⟩ ⟨(Nat.le_of_ble_eq_true rfl), (Nat.le_of_ble_eq_true rfl)⟩ dX9_wouldSay_62) (fun hp_11 H locs hH => ?_)
    refine lv_iload_n hM.fx.1 hM.fx.2.1 dX9_wouldSay_65 rfl (lv_at hl 0 rfl) ?_
    obtain rfl := Option.some.inj hf
    exact r_iret hM hH hp_9 ⟨(Nat.le_of_ble_eq_true rfl), (Nat.le_of_ble_eq_true rfl)⟩ dX9_wouldSay_66
  · have hf := gneg' h_3 hf
    refine lv_iconst (v := gi (0)) hM.fx.1 hM.fx.2.1 dX9_wouldSay_39 rfl ?_
    obtain rfl := Option.some.inj hf
    exact r_iret hM hH (gcR (k := 0) (by decide)) ⟨(Nat.le_of_ble_eq_true rfl), (Nat.le_of_ble_eq_true rfl)⟩ dX9_wouldSay_40
def fX9_wouldSay (g : Nat → Nat) (a0 : Nat) (x1 : Int) (x2 : Int) (M : gMem) : Option (Int × gMem) :=
  (fX9_isProcess g a0 x1 M).bind fun x_2 => if x_2 = 0 then (fX9_wouldSay_29 g a0 x1 x2 a0 1 M) else ((fX9_isIn g x2 0 300).bind fun x_5 => if x_5 = 0 then (fX9_wouldSay_29 g a0 x1 x2 a0 2 M) else (fX9_wouldSay_29 g a0 x1 x2 a0 0 M))
set_option maxHeartbeats 4000000 in
set_option maxRecDepth 100000 in
theorem mX9_wouldSay {w : gW} {n : Nat} {Rm : Nat → Nat → Nat} {g : Nat → Nat} (hLC : gLC g n Rm) {l : Launch} (hl9 : l.stackTraces = false) {a0 : Nat} {x1 : Int} {x2 : Int} {M : gMem} {r : (Int × gMem)} (hg0 : g a0 = 9) (hr1 : gRI x1) (hr2 : gRI x2) (hf : fX9_wouldSay g a0 x1 x2 M = some r) : gMT w n Rm l yX9_wouldSay cX9_wouldSay 4 (some .int) 9 245 0 0 [.ref (w.1 + a0), .int (gi x1), .int (gi x2)] M (.inr (some (.int (gi r.1)))) r.2 (gRI r.1) := by
  unfold fX9_wouldSay at hf
  refine gMT.of hl9 (by decide +kernel) ((Nat.le_of_ble_eq_true rfl)) ?_
  intro p e s m below meth c hM hH ls hl
  have hM : gMC w p l s m ([.ref (w.1 + a0), .int (gi x1), .int (gi x2)] : List Value).toArray meth c cX9_wouldSay 4 RX9 (some .int) := hM
  have hl : lv_has ls 4 [(0, .ref (w.1 + a0)), (1, .int (gi x1)), (2, .int (gi x2))] := hl
  refine lv_aload_n hM.fx.1 hM.fx.2.1 dX9_wouldSay_0 rfl (lv_at hl 0 rfl) ?_
  refine lv_aload_n hM.fx.1 hM.fx.2.1 dX9_wouldSay_1 rfl (lv_at hl 0 rfl) ?_
  refine lv_iload_n hM.fx.1 hM.fx.2.1 dX9_wouldSay_2 rfl (lv_at hl 1 rfl) ?_
  obtain ⟨x_2, ex_2, hf⟩ := gbd hf
  refine r_go1 hH rfl (r_runV (As := [.int (gi x1)]) hM hH cv_X9_319 (mX9_isProcess hLC hM.ns hg0 hr1 ex_2) (hLC.in hg0 (by decide)) (by decide) rfl rfl rfl hl.1 rfl (Nat.le_of_ble_eq_true rfl) ⟨(Nat.le_of_ble_eq_true rfl), (Nat.le_of_ble_eq_true rfl)⟩ ⟨(Nat.le_of_ble_eq_true rfl), (Nat.le_of_ble_eq_true rfl)⟩ dX9_wouldSay_3) (fun hp_1 H locs hH => ?_)
  refine r_if_ne (tgt := 13) hM.fx (gz_r hp_1) dX9_wouldSay_6 (by decide) (fun h_3 => ?_) (fun h_3 => ?_)
  · have hf := gneg' h_3 hf
    refine lv_iload_n hM.fx.1 hM.fx.2.1 dX9_wouldSay_13 rfl (lv_at hl 2 rfl) ?_
    refine lv_iconst (v := gi (0)) hM.fx.1 hM.fx.2.1 dX9_wouldSay_14 rfl ?_
    refine lv_sipush (v := gi (300)) hM.fx.1 hM.fx.2.1 dX9_wouldSay_15 (by decide) ?_
    obtain ⟨x_5, ex_5, hf⟩ := gbd hf
    refine r_go1 hH rfl (r_runS (As := [.int (gi x2), .int (gi 0), .int (gi 300)]) hM hH cs_X9_56 (mX9_isIn hLC hM.ns hr2 (gcR (k := 0) (by decide)) (gcR (k := 300) (by decide)) ex_5) rfl hl.1 rfl (Nat.le_of_ble_eq_true rfl) ⟨(Nat.le_of_ble_eq_true rfl), (Nat.le_of_ble_eq_true rfl)⟩ ⟨(Nat.le_of_ble_eq_true rfl), (Nat.le_of_ble_eq_true rfl)⟩ dX9_wouldSay_18) (fun hp_4 H locs hH => ?_)
    refine r_if_eq (tgt := 28) hM.fx (gz_r hp_4) dX9_wouldSay_21 (by decide) (fun h_6 => ?_) (fun h_6 => ?_)
    · have hf := gpos h_6 hf
      refine lv_iconst (v := gi (2)) hM.fx.1 hM.fx.2.1 dX9_wouldSay_28 rfl ?_
      exact wX9_wouldSay_29 hLC hM   _ _ _ _ _ _ _ hg0 hr1 hr2 hg0 (gcR (k := 2) (by decide)) hf _ _ _ hH hl
    · have hf := gneg' h_6 hf
      refine lv_iconst (v := gi (0)) hM.fx.1 hM.fx.2.1 dX9_wouldSay_24 rfl ?_
      refine lv_goto (tgt := 29) hM.fx.1 hM.fx.2.1 dX9_wouldSay_25 (by decide) ?_
      exact wX9_wouldSay_29 hLC hM   _ _ _ _ _ _ _ hg0 hr1 hr2 hg0 (gcR (k := 0) (by decide)) hf _ _ _ hH hl
  · have hf := gpos h_3 hf
    refine lv_iconst (v := gi (1)) hM.fx.1 hM.fx.2.1 dX9_wouldSay_9 rfl ?_
    refine lv_goto (tgt := 29) hM.fx.1 hM.fx.2.1 dX9_wouldSay_10 (by decide) ?_
    exact wX9_wouldSay_29 hLC hM   _ _ _ _ _ _ _ hg0 hr1 hr2 hg0 (gcR (k := 1) (by decide)) hf _ _ _ hH hl
def fX9_wouldFail_14 (g : Nat → Nat)  (a0 : Nat) (x1 : Int) (as0 : Nat) (xs1 : Int) (M : gMem) : Option (Int × gMem) :=
  gst (gup M as0 7 xs1) fun M_1 => if M_1 a0 7 ≤ 0 then ((fX9_setsAside g a0 M_1).bind fun M_5 => (fX9_goesOn g a0 300 M_5).bind fun q_7 => gst (gup q_7.2 a0 17 q_7.1) fun M_8 => (fX9_of g a0 x1 1 M_8).bind fun x_10 => (fX9_putsBack g a0 M_8).bind fun M_12 => some (x_10, M_12)) else (some (0, M_1))
set_option maxHeartbeats 4000000 in
set_option maxRecDepth 100000 in
theorem wX9_wouldFail_14 {w : gW} {n : Nat} {Rm : Nat → Nat → Nat} {g : Nat → Nat} (hLC : gLC g n Rm) {p : Program} {l : Launch} {e : Env} {s : State} {m : MethodId} {args : Array Value} {below : List Frame} {meth : Method} {c : Code} (hM : gMC w p l s m args meth c cX9_wouldFail 3 RX9 (some .int))  : ∀ (a0 : Nat) (x1 : Int) (as0 : Nat) (xs1 : Int) (M : gMem) (r : (Int × gMem)) (hg0 : g a0 = 9) (hr1 : gRI x1) (hgs0 : g as0 = 9) (hrs1 : gRI xs1) (hf : fX9_wouldFail_14 g a0 x1 as0 xs1 M = some r) (H : Heap) (locs : List Loc) (ls : Array Slot) (hH : gH w n Rm M s H locs) (hl : lv_has ls 3 [(0, .ref (w.1 + a0)), (1, .int (gi x1))]), W p l e { frames := 9, cells := 0, slots := 0, locals := 245 } s m args below meth c H locs 0 0 (gQ w n Rm below args s 0 0 (.inr (some (.int (gi r.1)))) r.2 (gRI r.1)) (F0 m 14 ls [.int (gi xs1), .ref (w.1 + as0)]) := by
  intro a0 x1 as0 xs1 M r hg0 hr1 hgs0 hrs1 hf H locs ls hH hl
  unfold fX9_wouldFail_14 at hf
  refine r_putI hM.fx hM.kf hH fp_X9_46 (hLC.in hgs0 (by decide)) hrs1 dX9_wouldFail_14 (fun H locs hH => ?_)
  obtain ⟨M_1, eM_1, hf⟩ := gst_s hf
  rw [← eM_1] at hH
  refine lv_aload_n hM.fx.1 hM.fx.2.1 dX9_wouldFail_17 rfl (lv_at hl 0 rfl) ?_
  refine r_getI hM.fx hM.kf hH fl_X9_46 (hLC.in hg0 (by decide)) dX9_wouldFail_18 ?_
  have hr_2 := hH.2.2.i (hLC.in hg0 (by decide)).2.2 (by decide : glg 9 7 = false)
  refine r_if_le (tgt := 26) hM.fx hr_2 dX9_wouldFail_21 (by decide) (fun h_3 => ?_) (fun h_3 => ?_)
  · have hf := gpos h_3 hf
    refine lv_aload_n hM.fx.1 hM.fx.2.1 dX9_wouldFail_26 rfl (lv_at hl 0 rfl) ?_
    obtain ⟨M_5, eM_5, hf⟩ := gbd hf
    refine r_go0 hH rfl (r_runV (As := []) hM hH cv_X9_341 (mX9_setsAside hLC hM.ns hg0 eM_5) (hLC.in hg0 (by decide)) (by decide) rfl rfl rfl hl.1 rfl (Nat.le_of_ble_eq_true rfl) ⟨(Nat.le_of_ble_eq_true rfl), (Nat.le_of_ble_eq_true rfl)⟩ ⟨(Nat.le_of_ble_eq_true rfl), (Nat.le_of_ble_eq_true rfl)⟩ dX9_wouldFail_27) (fun hp_4 H locs hH => ?_)
    refine lv_aload_n hM.fx.1 hM.fx.2.1 dX9_wouldFail_30 rfl (lv_at hl 0 rfl) ?_
    refine lv_aload_n hM.fx.1 hM.fx.2.1 dX9_wouldFail_31 rfl (lv_at hl 0 rfl) ?_
    refine lv_sipush (v := gi (300)) hM.fx.1 hM.fx.2.1 dX9_wouldFail_32 (by decide) ?_
    obtain ⟨q_7, eq_7, hf⟩ := gbd hf
    refine r_go1 hH rfl (r_runV (As := [.int (gi 300)]) hM hH cv_X9_344 (mX9_goesOn hLC hM.ns hg0 (gcR (k := 300) (by decide)) eq_7) (hLC.in hg0 (by decide)) (by decide) rfl rfl rfl hl.1 rfl (Nat.le_of_ble_eq_true rfl) ⟨(Nat.le_of_ble_eq_true rfl), (Nat.le_of_ble_eq_true rfl)⟩ ⟨(Nat.le_of_ble_eq_true rfl), (Nat.le_of_ble_eq_true rfl)⟩ dX9_wouldFail_35) (fun hp_6 H locs hH => ?_)
    refine r_putI hM.fx hM.kf hH fp_X9_350 (hLC.in hg0 (by decide)) hp_6 dX9_wouldFail_38 (fun H locs hH => ?_)
    obtain ⟨M_8, eM_8, hf⟩ := gst_s hf
    rw [← eM_8] at hH
    refine lv_aload_n hM.fx.1 hM.fx.2.1 dX9_wouldFail_41 rfl (lv_at hl 0 rfl) ?_
    refine lv_iload_n hM.fx.1 hM.fx.2.1 dX9_wouldFail_42 rfl (lv_at hl 1 rfl) ?_
    refine lv_iconst (v := gi (1)) hM.fx.1 hM.fx.2.1 dX9_wouldFail_43 rfl ?_
    obtain ⟨x_10, ex_10, hf⟩ := gbd hf
    refine r_go1 hH rfl (r_runV (As := [.int (gi x1), .int (gi 1)]) hM hH cv_X9_135 (mX9_of hLC hM.ns hg0 hr1 (gcR (k := 1) (by decide)) ex_10) (hLC.in hg0 (by decide)) (by decide) rfl rfl rfl hl.1 rfl (Nat.le_of_ble_eq_true rfl) ⟨(Nat.le_of_ble_eq_true rfl), (Nat.le_of_ble_eq_true rfl)⟩ ⟨(Nat.le_of_ble_eq_true rfl), (Nat.le_of_ble_eq_true rfl)⟩ dX9_wouldFail_44) (fun hp_9 H locs hH => ?_)
    refine lv_istore_n (lv' := [(2, .int (gi x_10)), (0, .ref (w.1 + a0)), (1, .int (gi x1))]) hM.fx.1 hM.fx.2.1 dX9_wouldFail_47 rfl hl (by decide) rfl (fun ls hl => ?_)
    refine lv_aload_n hM.fx.1 hM.fx.2.1 dX9_wouldFail_48 rfl (lv_at hl 1 rfl) ?_
    obtain ⟨M_12, eM_12, hf⟩ := gbd hf
    refine r_go0 hH rfl (r_runV (As := []) hM hH cv_X9_347 (mX9_putsBack hLC hM.ns hg0 eM_12) (hLC.in hg0 (by decide)) (by decide) rfl rfl rfl hl.1 rfl (Nat.le_of_ble_eq_true rfl) ⟨(Nat.le_of_ble_eq_true rfl), (Nat.le_of_ble_eq_true rfl)⟩ ⟨(Nat.le_of_ble_eq_true rfl), (Nat.le_of_ble_eq_true rfl)⟩ dX9_wouldFail_49) (fun hp_11 H locs hH => ?_)
    refine lv_iload_n hM.fx.1 hM.fx.2.1 dX9_wouldFail_52 rfl (lv_at hl 0 rfl) ?_
    obtain rfl := Option.some.inj hf
    exact r_iret hM hH hp_9 ⟨(Nat.le_of_ble_eq_true rfl), (Nat.le_of_ble_eq_true rfl)⟩ dX9_wouldFail_53
  · have hf := gneg' h_3 hf
    refine lv_iconst (v := gi (0)) hM.fx.1 hM.fx.2.1 dX9_wouldFail_24 rfl ?_
    obtain rfl := Option.some.inj hf
    exact r_iret hM hH (gcR (k := 0) (by decide)) ⟨(Nat.le_of_ble_eq_true rfl), (Nat.le_of_ble_eq_true rfl)⟩ dX9_wouldFail_25
def fX9_wouldFail (g : Nat → Nat) (a0 : Nat) (x1 : Int) (M : gMem) : Option (Int × gMem) :=
  (fX9_isProcess g a0 x1 M).bind fun x_2 => if x_2 = 0 then (fX9_wouldFail_14 g a0 x1 a0 1 M) else (fX9_wouldFail_14 g a0 x1 a0 0 M)
set_option maxHeartbeats 4000000 in
set_option maxRecDepth 100000 in
theorem mX9_wouldFail {w : gW} {n : Nat} {Rm : Nat → Nat → Nat} {g : Nat → Nat} (hLC : gLC g n Rm) {l : Launch} (hl9 : l.stackTraces = false) {a0 : Nat} {x1 : Int} {M : gMem} {r : (Int × gMem)} (hg0 : g a0 = 9) (hr1 : gRI x1) (hf : fX9_wouldFail g a0 x1 M = some r) : gMT w n Rm l yX9_wouldFail cX9_wouldFail 3 (some .int) 9 245 0 0 [.ref (w.1 + a0), .int (gi x1)] M (.inr (some (.int (gi r.1)))) r.2 (gRI r.1) := by
  unfold fX9_wouldFail at hf
  refine gMT.of hl9 (by decide +kernel) ((Nat.le_of_ble_eq_true rfl)) ?_
  intro p e s m below meth c hM hH ls hl
  have hM : gMC w p l s m ([.ref (w.1 + a0), .int (gi x1)] : List Value).toArray meth c cX9_wouldFail 3 RX9 (some .int) := hM
  have hl : lv_has ls 3 [(0, .ref (w.1 + a0)), (1, .int (gi x1))] := hl
  refine lv_aload_n hM.fx.1 hM.fx.2.1 dX9_wouldFail_0 rfl (lv_at hl 0 rfl) ?_
  refine lv_aload_n hM.fx.1 hM.fx.2.1 dX9_wouldFail_1 rfl (lv_at hl 0 rfl) ?_
  refine lv_iload_n hM.fx.1 hM.fx.2.1 dX9_wouldFail_2 rfl (lv_at hl 1 rfl) ?_
  obtain ⟨x_2, ex_2, hf⟩ := gbd hf
  refine r_go1 hH rfl (r_runV (As := [.int (gi x1)]) hM hH cv_X9_319 (mX9_isProcess hLC hM.ns hg0 hr1 ex_2) (hLC.in hg0 (by decide)) (by decide) rfl rfl rfl hl.1 rfl (Nat.le_of_ble_eq_true rfl) ⟨(Nat.le_of_ble_eq_true rfl), (Nat.le_of_ble_eq_true rfl)⟩ ⟨(Nat.le_of_ble_eq_true rfl), (Nat.le_of_ble_eq_true rfl)⟩ dX9_wouldFail_3) (fun hp_1 H locs hH => ?_)
  refine r_if_eq (tgt := 13) hM.fx (gz_r hp_1) dX9_wouldFail_6 (by decide) (fun h_3 => ?_) (fun h_3 => ?_)
  · have hf := gpos h_3 hf
    refine lv_iconst (v := gi (1)) hM.fx.1 hM.fx.2.1 dX9_wouldFail_13 rfl ?_
    exact wX9_wouldFail_14 hLC hM   _ _ _ _ _ _ hg0 hr1 hg0 (gcR (k := 1) (by decide)) hf _ _ _ hH hl
  · have hf := gneg' h_3 hf
    refine lv_iconst (v := gi (0)) hM.fx.1 hM.fx.2.1 dX9_wouldFail_9 rfl ?_
    refine lv_goto (tgt := 14) hM.fx.1 hM.fx.2.1 dX9_wouldFail_10 (by decide) ?_
    exact wX9_wouldFail_14 hLC hM   _ _ _ _ _ _ hg0 hr1 hg0 (gcR (k := 0) (by decide)) hf _ _ _ hH hl
def fX9_fairest_87 (g : Nat → Nat) (k11 : Nat → Int → Int → Int → gMem → Option (Int × gMem)) (a0 : Nat) (x1 : Int) (x2 : Int) (x3 : Int) (M : gMem) : Option (Int × gMem) :=
  gst (gwi (x3 + 1)) fun x_1 => k11 a0 x1 x2 x_1 M
set_option maxHeartbeats 4000000 in
set_option maxRecDepth 100000 in
theorem wX9_fairest_87 {w : gW} {n : Nat} {Rm : Nat → Nat → Nat} {g : Nat → Nat} (hLC : gLC g n Rm) {p : Program} {l : Launch} {e : Env} {s : State} {m : MethodId} {args : Array Value} {below : List Frame} {meth : Method} {c : Code} (hM : gMC w p l s m args meth c cX9_fairest 5 RX9 (some .int)) (k11 : Nat → Int → Int → Int → gMem → Option (Int × gMem)) (hk11 : ∀ (a0 : Nat) (x1 : Int) (x2 : Int) (x3 : Int) (M : gMem) (r : (Int × gMem)) (hg0 : g a0 = 9) (hr1 : gRI x1) (hr2 : gRI x2) (hr3 : gRI x3) (hf : k11 a0 x1 x2 x3 M = some r) (H : Heap) (locs : List Loc) (ls : Array Slot) (hH : gH w n Rm M s H locs) (hl : lv_has ls 5 [(0, .ref (w.1 + a0)), (1, .int (gi x1)), (2, .int (gi x2)), (3, .int (gi x3))]), W p l e { frames := 9, cells := 0, slots := 0, locals := 245 } s m args below meth c H locs 0 0 (gQ w n Rm below args s 0 0 (.inr (some (.int (gi r.1)))) r.2 (gRI r.1)) (F0 m 11 ls [])) : ∀ (a0 : Nat) (x1 : Int) (x2 : Int) (x3 : Int) (M : gMem) (r : (Int × gMem)) (hg0 : g a0 = 9) (hr1 : gRI x1) (hr2 : gRI x2) (hr3 : gRI x3) (hf : fX9_fairest_87 g k11 a0 x1 x2 x3 M = some r) (H : Heap) (locs : List Loc) (ls : Array Slot) (hH : gH w n Rm M s H locs) (hl : lv_has ls 5 [(0, .ref (w.1 + a0)), (1, .int (gi x1)), (2, .int (gi x2)), (3, .int (gi x3))]), W p l e { frames := 9, cells := 0, slots := 0, locals := 245 } s m args below meth c H locs 0 0 (gQ w n Rm below args s 0 0 (.inr (some (.int (gi r.1)))) r.2 (gRI r.1)) (F0 m 87 ls []) := by
  intro a0 x1 x2 x3 M r hg0 hr1 hr2 hr3 hf H locs ls hH hl
  unfold fX9_fairest_87 at hf
  obtain ⟨x_1, ex_1, hf⟩ := gst_s hf
  have hx_1 : gRI x_1 := by rw [ex_1]; exact gwi_r _
  refine r_iinc (lv' := [(3, .int (gi x_1)), (0, .ref (w.1 + a0)), (1, .int (gi x1)), (2, .int (gi x2))]) hM.fx dX9_fairest_87 hl (k := 3) rfl (by decide) (by rw [ex_1]; rfl) (fun ls hl => ?_)
  refine lv_goto (tgt := 11) hM.fx.1 hM.fx.2.1 dX9_fairest_90 (by decide) ?_
  exact hk11 _ _ _ _ _ _ hg0 hr1 hr2 hx_1 hf _ _ _ hH (lv_sub hl [1, 2, 3, 0] rfl)
def fX9_fairest_82 (g : Nat → Nat) (k11 : Nat → Int → Int → Int → gMem → Option (Int × gMem)) (a0 : Nat) (x3 : Int) (x4 : Int) (M : gMem) : Option (Int × gMem) :=
  fX9_fairest_87 g k11 a0 x3 x4 x3 M
set_option maxHeartbeats 4000000 in
set_option maxRecDepth 100000 in
theorem wX9_fairest_82 {w : gW} {n : Nat} {Rm : Nat → Nat → Nat} {g : Nat → Nat} (hLC : gLC g n Rm) {p : Program} {l : Launch} {e : Env} {s : State} {m : MethodId} {args : Array Value} {below : List Frame} {meth : Method} {c : Code} (hM : gMC w p l s m args meth c cX9_fairest 5 RX9 (some .int)) (k11 : Nat → Int → Int → Int → gMem → Option (Int × gMem)) (hk11 : ∀ (a0 : Nat) (x1 : Int) (x2 : Int) (x3 : Int) (M : gMem) (r : (Int × gMem)) (hg0 : g a0 = 9) (hr1 : gRI x1) (hr2 : gRI x2) (hr3 : gRI x3) (hf : k11 a0 x1 x2 x3 M = some r) (H : Heap) (locs : List Loc) (ls : Array Slot) (hH : gH w n Rm M s H locs) (hl : lv_has ls 5 [(0, .ref (w.1 + a0)), (1, .int (gi x1)), (2, .int (gi x2)), (3, .int (gi x3))]), W p l e { frames := 9, cells := 0, slots := 0, locals := 245 } s m args below meth c H locs 0 0 (gQ w n Rm below args s 0 0 (.inr (some (.int (gi r.1)))) r.2 (gRI r.1)) (F0 m 11 ls [])) : ∀ (a0 : Nat) (x3 : Int) (x4 : Int) (M : gMem) (r : (Int × gMem)) (hg0 : g a0 = 9) (hr3 : gRI x3) (hr4 : gRI x4) (hf : fX9_fairest_82 g k11 a0 x3 x4 M = some r) (H : Heap) (locs : List Loc) (ls : Array Slot) (hH : gH w n Rm M s H locs) (hl : lv_has ls 5 [(0, .ref (w.1 + a0)), (3, .int (gi x3)), (4, .int (gi x4))]), W p l e { frames := 9, cells := 0, slots := 0, locals := 245 } s m args below meth c H locs 0 0 (gQ w n Rm below args s 0 0 (.inr (some (.int (gi r.1)))) r.2 (gRI r.1)) (F0 m 82 ls []) := by
  intro a0 x3 x4 M r hg0 hr3 hr4 hf H locs ls hH hl
  unfold fX9_fairest_82 at hf
  refine lv_iload_n hM.fx.1 hM.fx.2.1 dX9_fairest_82 rfl (lv_at hl 1 rfl) ?_
  refine lv_istore_n (lv' := [(1, .int (gi x3)), (0, .ref (w.1 + a0)), (3, .int (gi x3)), (4, .int (gi x4))]) hM.fx.1 hM.fx.2.1 dX9_fairest_83 rfl hl (by decide) rfl (fun ls hl => ?_)
  refine lv_iload hM.fx.1 hM.fx.2.1 dX9_fairest_84 (lv_at hl 3 rfl) ?_
  refine lv_istore_n (lv' := [(2, .int (gi x4)), (1, .int (gi x3)), (0, .ref (w.1 + a0)), (3, .int (gi x3)), (4, .int (gi x4))]) hM.fx.1 hM.fx.2.1 dX9_fairest_86 rfl hl (by decide) rfl (fun ls hl => ?_)
  exact wX9_fairest_87 hLC hM k11 hk11  _ _ _ _ _ _ hg0 hr3 hr4 hr3 hf _ _ _ hH (lv_sub hl [2, 1, 0, 3] rfl)
def fX9_fairest_24 (g : Nat → Nat) (k11 : Nat → Int → Int → Int → gMem → Option (Int × gMem)) : Nat → Nat → Int → Int → Int → Int → gMem → Option (Int × gMem)
  | 0, _, _, _, _, _, _ => none
  | fu + 1, a0, x1, x2, x3, x4, M => if (0 : Int) ≤ 1 ∧ (1 : Int) < 1190 then if M (a0 + 1) (1 : Int).toNat ≤ x4 then ((fX9_goesOn g a0 60 M).bind fun q_5 => gst (gup q_5.2 a0 17 q_5.1) fun M_6 => (fX9_unfairNow g a0 M_6).bind fun x_8 => (fX9_putsBack g a0 M_6).bind fun M_10 => if x1 ≤ 0 then (fX9_fairest_82 g k11 a0 x3 x_8 M_10) else (if x_8 < x2 then (fX9_fairest_82 g k11 a0 x3 x_8 M_10) else (fX9_fairest_87 g k11 a0 x1 x2 x3 M_10))) else ((fX9_sets g a0 x4 4 x3 M).bind fun M_14 => gst (gwi (x4 + 1)) fun x_15 => fX9_fairest_24 g k11 fu a0 x1 x2 x3 x_15 M_14) else none
set_option maxHeartbeats 4000000 in
set_option maxRecDepth 100000 in
theorem wX9_fairest_24 {w : gW} {n : Nat} {Rm : Nat → Nat → Nat} {g : Nat → Nat} (hLC : gLC g n Rm) {p : Program} {l : Launch} {e : Env} {s : State} {m : MethodId} {args : Array Value} {below : List Frame} {meth : Method} {c : Code} (hM : gMC w p l s m args meth c cX9_fairest 5 RX9 (some .int)) (k11 : Nat → Int → Int → Int → gMem → Option (Int × gMem)) (hk11 : ∀ (a0 : Nat) (x1 : Int) (x2 : Int) (x3 : Int) (M : gMem) (r : (Int × gMem)) (hg0 : g a0 = 9) (hr1 : gRI x1) (hr2 : gRI x2) (hr3 : gRI x3) (hf : k11 a0 x1 x2 x3 M = some r) (H : Heap) (locs : List Loc) (ls : Array Slot) (hH : gH w n Rm M s H locs) (hl : lv_has ls 5 [(0, .ref (w.1 + a0)), (1, .int (gi x1)), (2, .int (gi x2)), (3, .int (gi x3))]), W p l e { frames := 9, cells := 0, slots := 0, locals := 245 } s m args below meth c H locs 0 0 (gQ w n Rm below args s 0 0 (.inr (some (.int (gi r.1)))) r.2 (gRI r.1)) (F0 m 11 ls [])) : ∀ (fu : Nat), ∀ (a0 : Nat) (x1 : Int) (x2 : Int) (x3 : Int) (x4 : Int) (M : gMem) (r : (Int × gMem)) (hg0 : g a0 = 9) (hr1 : gRI x1) (hr2 : gRI x2) (hr3 : gRI x3) (hr4 : gRI x4) (hf : fX9_fairest_24 g k11 fu a0 x1 x2 x3 x4 M = some r) (H : Heap) (locs : List Loc) (ls : Array Slot) (hH : gH w n Rm M s H locs) (hl : lv_has ls 5 [(0, .ref (w.1 + a0)), (1, .int (gi x1)), (2, .int (gi x2)), (3, .int (gi x3)), (4, .int (gi x4))]), W p l e { frames := 9, cells := 0, slots := 0, locals := 245 } s m args below meth c H locs 0 0 (gQ w n Rm below args s 0 0 (.inr (some (.int (gi r.1)))) r.2 (gRI r.1)) (F0 m 24 ls []) := by
  intro fu
  induction fu with
  | zero =>
    intro a0 x1 x2 x3 x4 M r hg0 hr1 hr2 hr3 hr4 hf H locs ls hH hl
    exact absurd hf (by simp [fX9_fairest_24])
  | succ fu ih =>
    intro a0 x1 x2 x3 x4 M r hg0 hr1 hr2 hr3 hr4 hf H locs ls hH hl
    unfold fX9_fairest_24 at hf
    refine lv_iload hM.fx.1 hM.fx.2.1 dX9_fairest_24 (lv_at hl 4 rfl) ?_
    refine lv_aload_n hM.fx.1 hM.fx.2.1 dX9_fairest_26 rfl (lv_at hl 0 rfl) ?_
    refine r_getR hM.fx hM.kf hH hLC fl_X9_7 hg0 gch_9_0 dX9_fairest_27 ?_
    refine lv_iconst (v := gi (1)) hM.fx.1 hM.fx.2.1 dX9_fairest_30 rfl ?_
    obtain ⟨g_1, hf⟩ := gif hf
    refine r_iald hM.fx hM.kf hH (hLC.in (hLC.ch hg0 (by decide) gch_9_0) (by decide)) (⟨by decide, by decide⟩ : gAr 19056 0) (gcR (k := 1) (by decide)) g_1 dX9_fairest_31 ?_
    have hr_2 := hH.2.2.i (k := (1 : Int).toNat) (hLC.in (hLC.ch hg0 (by decide) gch_9_0) (by decide)).2.2 (glg_a (⟨by decide, by decide⟩ : gAr 19056 0))
    refine r_icmp_ge (tgt := 49) hM.fx hr4 hr_2 dX9_fairest_32 (by decide) (fun h_3 => ?_) (fun h_3 => ?_)
    · have hf := gpos h_3 hf
      refine lv_aload_n hM.fx.1 hM.fx.2.1 dX9_fairest_49 rfl (lv_at hl 0 rfl) ?_
      refine lv_aload_n hM.fx.1 hM.fx.2.1 dX9_fairest_50 rfl (lv_at hl 0 rfl) ?_
      refine lv_bipush (v := gi (60)) hM.fx.1 hM.fx.2.1 dX9_fairest_51 (by decide) ?_
      obtain ⟨q_5, eq_5, hf⟩ := gbd hf
      refine r_go1 hH rfl (r_runV (As := [.int (gi 60)]) hM hH cv_X9_344 (mX9_goesOn hLC hM.ns hg0 (gcR (k := 60) (by decide)) eq_5) (hLC.in hg0 (by decide)) (by decide) rfl rfl rfl hl.1 rfl (Nat.le_of_ble_eq_true rfl) ⟨(Nat.le_of_ble_eq_true rfl), (Nat.le_of_ble_eq_true rfl)⟩ ⟨(Nat.le_of_ble_eq_true rfl), (Nat.le_of_ble_eq_true rfl)⟩ dX9_fairest_53) (fun hp_4 H locs hH => ?_)
      refine r_putI hM.fx hM.kf hH fp_X9_350 (hLC.in hg0 (by decide)) hp_4 dX9_fairest_56 (fun H locs hH => ?_)
      obtain ⟨M_6, eM_6, hf⟩ := gst_s hf
      rw [← eM_6] at hH
      refine lv_aload_n hM.fx.1 hM.fx.2.1 dX9_fairest_59 rfl (lv_at hl 0 rfl) ?_
      obtain ⟨x_8, ex_8, hf⟩ := gbd hf
      refine r_go1 hH rfl (r_runV (As := []) hM hH cv_X9_338 (mX9_unfairNow hLC hM.ns hg0 ex_8) (hLC.in hg0 (by decide)) (by decide) rfl rfl rfl hl.1 rfl (Nat.le_of_ble_eq_true rfl) ⟨(Nat.le_of_ble_eq_true rfl), (Nat.le_of_ble_eq_true rfl)⟩ ⟨(Nat.le_of_ble_eq_true rfl), (Nat.le_of_ble_eq_true rfl)⟩ dX9_fairest_60) (fun hp_7 H locs hH => ?_)
      refine lv_istore (lv' := [(4, .int (gi x_8)), (0, .ref (w.1 + a0)), (1, .int (gi x1)), (2, .int (gi x2)), (3, .int (gi x3))]) hM.fx.1 hM.fx.2.1 dX9_fairest_63 hl (by decide) rfl (fun ls hl => ?_)
      refine lv_aload_n hM.fx.1 hM.fx.2.1 dX9_fairest_65 rfl (lv_at hl 1 rfl) ?_
      obtain ⟨M_10, eM_10, hf⟩ := gbd hf
      refine r_go0 hH rfl (r_runV (As := []) hM hH cv_X9_347 (mX9_putsBack hLC hM.ns hg0 eM_10) (hLC.in hg0 (by decide)) (by decide) rfl rfl rfl hl.1 rfl (Nat.le_of_ble_eq_true rfl) ⟨(Nat.le_of_ble_eq_true rfl), (Nat.le_of_ble_eq_true rfl)⟩ ⟨(Nat.le_of_ble_eq_true rfl), (Nat.le_of_ble_eq_true rfl)⟩ dX9_fairest_66) (fun hp_9 H locs hH => ?_)
      refine lv_iload_n hM.fx.1 hM.fx.2.1 dX9_fairest_69 rfl (lv_at hl 2 rfl) ?_
      refine r_if_le (tgt := 82) hM.fx hr1 dX9_fairest_70 (by decide) (fun h_11 => ?_) (fun h_11 => ?_)
      · have hf := gpos h_11 hf
        exact wX9_fairest_82 hLC hM k11 hk11  _ _ _ _ _ hg0 hr3 hp_7 hf _ _ _ hH (lv_sub hl [1, 4, 0] rfl)
      · have hf := gneg' h_11 hf
        refine lv_iload hM.fx.1 hM.fx.2.1 dX9_fairest_73 (lv_at hl 0 rfl) ?_
        refine lv_iload_n hM.fx.1 hM.fx.2.1 dX9_fairest_75 rfl (lv_at hl 3 rfl) ?_
        refine r_icmp_lt (tgt := 82) hM.fx hp_7 hr2 dX9_fairest_76 (by decide) (fun h_12 => ?_) (fun h_12 => ?_)
        · have hf := gpos h_12 hf
          exact wX9_fairest_82 hLC hM k11 hk11  _ _ _ _ _ hg0 hr3 hp_7 hf _ _ _ hH (lv_sub hl [1, 4, 0] rfl)
        · have hf := gneg' h_12 hf
          refine lv_goto (tgt := 87) hM.fx.1 hM.fx.2.1 dX9_fairest_79 (by decide) ?_
          exact wX9_fairest_87 hLC hM k11 hk11  _ _ _ _ _ _ hg0 hr1 hr2 hr3 hf _ _ _ hH (lv_sub hl [1, 2, 3, 4] rfl)
    · have hf := gneg' h_3 hf
      refine lv_aload_n hM.fx.1 hM.fx.2.1 dX9_fairest_35 rfl (lv_at hl 0 rfl) ?_
      refine lv_iload hM.fx.1 hM.fx.2.1 dX9_fairest_36 (lv_at hl 4 rfl) ?_
      refine lv_iconst (v := gi (4)) hM.fx.1 hM.fx.2.1 dX9_fairest_38 rfl ?_
      refine lv_iload_n hM.fx.1 hM.fx.2.1 dX9_fairest_39 rfl (lv_at hl 3 rfl) ?_
      obtain ⟨M_14, eM_14, hf⟩ := gbd hf
      refine r_go0 hH rfl (r_runV (As := [.int (gi x4), .int (gi 4), .int (gi x3)]) hM hH cv_X9_42 (mX9_sets hLC hM.ns hg0 hr4 (gcR (k := 4) (by decide)) hr3 eM_14) (hLC.in hg0 (by decide)) (by decide) rfl rfl rfl hl.1 rfl (Nat.le_of_ble_eq_true rfl) ⟨(Nat.le_of_ble_eq_true rfl), (Nat.le_of_ble_eq_true rfl)⟩ ⟨(Nat.le_of_ble_eq_true rfl), (Nat.le_of_ble_eq_true rfl)⟩ dX9_fairest_40) (fun hp_13 H locs hH => ?_)
      obtain ⟨x_15, ex_15, hf⟩ := gst_s hf
      have hx_15 : gRI x_15 := by rw [ex_15]; exact gwi_r _
      refine r_iinc (lv' := [(4, .int (gi x_15)), (0, .ref (w.1 + a0)), (1, .int (gi x1)), (2, .int (gi x2)), (3, .int (gi x3))]) hM.fx dX9_fairest_43 hl (k := 4) rfl (by decide) (by rw [ex_15]; rfl) (fun ls hl => ?_)
      refine lv_goto (tgt := 24) hM.fx.1 hM.fx.2.1 dX9_fairest_46 (by decide) ?_
      exact ih _ _ _ _ _ _ _ hg0 hr1 hr2 hr3 hx_15 hf _ _ _ hH (lv_sub hl [1, 2, 3, 4, 0] rfl)
def fX9_fairest_11 (g : Nat → Nat)  : Nat → Nat → Int → Int → Int → gMem → Option (Int × gMem)
  | 0, _, _, _, _, _ => none
  | fu + 1, a0, x1, x2, x3, M => if 10 ≤ x3 then (some (x1, M)) else ((fX9_setsAside g a0 M).bind fun M_3 => fX9_fairest_24 g (fX9_fairest_11 g fu) gF a0 x1 x2 x3 0 M_3)
set_option maxHeartbeats 4000000 in
set_option maxRecDepth 100000 in
theorem wX9_fairest_11 {w : gW} {n : Nat} {Rm : Nat → Nat → Nat} {g : Nat → Nat} (hLC : gLC g n Rm) {p : Program} {l : Launch} {e : Env} {s : State} {m : MethodId} {args : Array Value} {below : List Frame} {meth : Method} {c : Code} (hM : gMC w p l s m args meth c cX9_fairest 5 RX9 (some .int))  : ∀ (fu : Nat), ∀ (a0 : Nat) (x1 : Int) (x2 : Int) (x3 : Int) (M : gMem) (r : (Int × gMem)) (hg0 : g a0 = 9) (hr1 : gRI x1) (hr2 : gRI x2) (hr3 : gRI x3) (hf : fX9_fairest_11 g fu a0 x1 x2 x3 M = some r) (H : Heap) (locs : List Loc) (ls : Array Slot) (hH : gH w n Rm M s H locs) (hl : lv_has ls 5 [(0, .ref (w.1 + a0)), (1, .int (gi x1)), (2, .int (gi x2)), (3, .int (gi x3))]), W p l e { frames := 9, cells := 0, slots := 0, locals := 245 } s m args below meth c H locs 0 0 (gQ w n Rm below args s 0 0 (.inr (some (.int (gi r.1)))) r.2 (gRI r.1)) (F0 m 11 ls []) := by
  intro fu
  induction fu with
  | zero =>
    intro a0 x1 x2 x3 M r hg0 hr1 hr2 hr3 hf H locs ls hH hl
    exact absurd hf (by simp [fX9_fairest_11])
  | succ fu ih =>
    intro a0 x1 x2 x3 M r hg0 hr1 hr2 hr3 hf H locs ls hH hl
    unfold fX9_fairest_11 at hf
    refine lv_iload_n hM.fx.1 hM.fx.2.1 dX9_fairest_11 rfl (lv_at hl 3 rfl) ?_
    refine lv_bipush (v := gi (10)) hM.fx.1 hM.fx.2.1 dX9_fairest_12 (by decide) ?_
    refine r_icmp_ge (tgt := 93) hM.fx hr3 (gcR (k := 10) (by decide)) dX9_fairest_14 (by decide) (fun h_1 => ?_) (fun h_1 => ?_)
    · have hf := gpos h_1 hf
      refine lv_iload_n hM.fx.1 hM.fx.2.1 dX9_fairest_93 rfl (lv_at hl 1 rfl) ?_
      obtain rfl := Option.some.inj hf
      exact r_iret hM hH hr1 ⟨(Nat.le_of_ble_eq_true rfl), (Nat.le_of_ble_eq_true rfl)⟩ dX9_fairest_94
    · have hf := gneg' h_1 hf
      refine lv_aload_n hM.fx.1 hM.fx.2.1 dX9_fairest_17 rfl (lv_at hl 0 rfl) ?_
      obtain ⟨M_3, eM_3, hf⟩ := gbd hf
      refine r_go0 hH rfl (r_runV (As := []) hM hH cv_X9_341 (mX9_setsAside hLC hM.ns hg0 eM_3) (hLC.in hg0 (by decide)) (by decide) rfl rfl rfl hl.1 rfl (Nat.le_of_ble_eq_true rfl) ⟨(Nat.le_of_ble_eq_true rfl), (Nat.le_of_ble_eq_true rfl)⟩ ⟨(Nat.le_of_ble_eq_true rfl), (Nat.le_of_ble_eq_true rfl)⟩ dX9_fairest_18) (fun hp_2 H locs hH => ?_)
      refine lv_iconst (v := gi (0)) hM.fx.1 hM.fx.2.1 dX9_fairest_21 rfl ?_
      refine lv_istore (lv' := [(4, .int (gi 0)), (0, .ref (w.1 + a0)), (1, .int (gi x1)), (2, .int (gi x2)), (3, .int (gi x3))]) hM.fx.1 hM.fx.2.1 dX9_fairest_22 hl (by decide) rfl (fun ls hl => ?_)
      exact wX9_fairest_24 hLC hM (fX9_fairest_11 g fu) ih gF _ _ _ _ _ _ _ hg0 hr1 hr2 hr3 (gcR (k := 0) (by decide)) hf _ _ _ hH (lv_sub hl [1, 2, 3, 4, 0] rfl)
def fX9_fairest (g : Nat → Nat) (a0 : Nat) (M : gMem) : Option (Int × gMem) :=
  gst (gup M a0 7 0) fun M_1 => fX9_fairest_11 g gF a0 0 0 1 M_1
set_option maxHeartbeats 4000000 in
set_option maxRecDepth 100000 in
theorem mX9_fairest {w : gW} {n : Nat} {Rm : Nat → Nat → Nat} {g : Nat → Nat} (hLC : gLC g n Rm) {l : Launch} (hl9 : l.stackTraces = false) {a0 : Nat} {M : gMem} {r : (Int × gMem)} (hg0 : g a0 = 9) (hf : fX9_fairest g a0 M = some r) : gMT w n Rm l yX9_fairest cX9_fairest 5 (some .int) 9 245 0 0 [.ref (w.1 + a0)] M (.inr (some (.int (gi r.1)))) r.2 (gRI r.1) := by
  unfold fX9_fairest at hf
  refine gMT.of hl9 (by decide +kernel) ((Nat.le_of_ble_eq_true rfl)) ?_
  intro p e s m below meth c hM hH ls hl
  have hM : gMC w p l s m ([.ref (w.1 + a0)] : List Value).toArray meth c cX9_fairest 5 RX9 (some .int) := hM
  have hl : lv_has ls 5 [(0, .ref (w.1 + a0))] := hl
  refine lv_aload_n hM.fx.1 hM.fx.2.1 dX9_fairest_0 rfl (lv_at hl 0 rfl) ?_
  refine lv_iconst (v := gi (0)) hM.fx.1 hM.fx.2.1 dX9_fairest_1 rfl ?_
  refine r_putI hM.fx hM.kf hH fp_X9_46 (hLC.in hg0 (by decide)) (gcR (k := 0) (by decide)) dX9_fairest_2 (fun H locs hH => ?_)
  obtain ⟨M_1, eM_1, hf⟩ := gst_s hf
  rw [← eM_1] at hH
  refine lv_iconst (v := gi (0)) hM.fx.1 hM.fx.2.1 dX9_fairest_5 rfl ?_
  refine lv_istore_n (lv' := [(1, .int (gi 0)), (0, .ref (w.1 + a0))]) hM.fx.1 hM.fx.2.1 dX9_fairest_6 rfl hl (by decide) rfl (fun ls hl => ?_)
  refine lv_iconst (v := gi (0)) hM.fx.1 hM.fx.2.1 dX9_fairest_7 rfl ?_
  refine lv_istore_n (lv' := [(2, .int (gi 0)), (1, .int (gi 0)), (0, .ref (w.1 + a0))]) hM.fx.1 hM.fx.2.1 dX9_fairest_8 rfl hl (by decide) rfl (fun ls hl => ?_)
  refine lv_iconst (v := gi (1)) hM.fx.1 hM.fx.2.1 dX9_fairest_9 rfl ?_
  refine lv_istore_n (lv' := [(3, .int (gi 1)), (2, .int (gi 0)), (1, .int (gi 0)), (0, .ref (w.1 + a0))]) hM.fx.1 hM.fx.2.1 dX9_fairest_10 rfl hl (by decide) rfl (fun ls hl => ?_)
  exact wX9_fairest_11 hLC hM  gF _ _ _ _ _ _ hg0 (gcR (k := 0) (by decide)) (gcR (k := 0) (by decide)) (gcR (k := 1) (by decide)) hf _ _ _ hH (lv_sub hl [3, 2, 1, 0] rfl)
def fX9_endedWith_25 (g : Nat → Nat)  (a0 : Nat) (M : gMem) : Option (Int × gMem) :=
  (fX9_goesOn g a0 300 M).bind fun q_2 => gst (gup q_2.2 a0 17 q_2.1) fun M_3 => (fX9_countOf g a0 1 M_3).bind fun x_5 => (fX9_putsBack g a0 M_3).bind fun M_7 => some (x_5, M_7)
set_option maxHeartbeats 4000000 in
set_option maxRecDepth 100000 in
theorem wX9_endedWith_25 {w : gW} {n : Nat} {Rm : Nat → Nat → Nat} {g : Nat → Nat} (hLC : gLC g n Rm) {p : Program} {l : Launch} {e : Env} {s : State} {m : MethodId} {args : Array Value} {below : List Frame} {meth : Method} {c : Code} (hM : gMC w p l s m args meth c cX9_endedWith 4 RX9 (some .int))  : ∀ (a0 : Nat) (M : gMem) (r : (Int × gMem)) (hg0 : g a0 = 9) (hf : fX9_endedWith_25 g a0 M = some r) (H : Heap) (locs : List Loc) (ls : Array Slot) (hH : gH w n Rm M s H locs) (hl : lv_has ls 4 [(0, .ref (w.1 + a0))]), W p l e { frames := 9, cells := 0, slots := 0, locals := 245 } s m args below meth c H locs 0 0 (gQ w n Rm below args s 0 0 (.inr (some (.int (gi r.1)))) r.2 (gRI r.1)) (F0 m 25 ls []) := by
  intro a0 M r hg0 hf H locs ls hH hl
  unfold fX9_endedWith_25 at hf
  refine lv_aload_n hM.fx.1 hM.fx.2.1 dX9_endedWith_25 rfl (lv_at hl 0 rfl) ?_
  refine lv_aload_n hM.fx.1 hM.fx.2.1 dX9_endedWith_26 rfl (lv_at hl 0 rfl) ?_
  refine lv_sipush (v := gi (300)) hM.fx.1 hM.fx.2.1 dX9_endedWith_27 (by decide) ?_
  obtain ⟨q_2, eq_2, hf⟩ := gbd hf
  refine r_go1 hH rfl (r_runV (As := [.int (gi 300)]) hM hH cv_X9_344 (mX9_goesOn hLC hM.ns hg0 (gcR (k := 300) (by decide)) eq_2) (hLC.in hg0 (by decide)) (by decide) rfl rfl rfl hl.1 rfl (Nat.le_of_ble_eq_true rfl) ⟨(Nat.le_of_ble_eq_true rfl), (Nat.le_of_ble_eq_true rfl)⟩ ⟨(Nat.le_of_ble_eq_true rfl), (Nat.le_of_ble_eq_true rfl)⟩ dX9_endedWith_30) (fun hp_1 H locs hH => ?_)
  refine r_putI hM.fx hM.kf hH fp_X9_350 (hLC.in hg0 (by decide)) hp_1 dX9_endedWith_33 (fun H locs hH => ?_)
  obtain ⟨M_3, eM_3, hf⟩ := gst_s hf
  rw [← eM_3] at hH
  refine lv_aload_n hM.fx.1 hM.fx.2.1 dX9_endedWith_36 rfl (lv_at hl 0 rfl) ?_
  refine lv_iconst (v := gi (1)) hM.fx.1 hM.fx.2.1 dX9_endedWith_37 rfl ?_
  obtain ⟨x_5, ex_5, hf⟩ := gbd hf
  refine r_go1 hH rfl (r_runV (As := [.int (gi 1)]) hM hH cv_X9_264 (mX9_countOf hLC hM.ns hg0 (gcR (k := 1) (by decide)) ex_5) (hLC.in hg0 (by decide)) (by decide) rfl rfl rfl hl.1 rfl (Nat.le_of_ble_eq_true rfl) ⟨(Nat.le_of_ble_eq_true rfl), (Nat.le_of_ble_eq_true rfl)⟩ ⟨(Nat.le_of_ble_eq_true rfl), (Nat.le_of_ble_eq_true rfl)⟩ dX9_endedWith_38) (fun hp_4 H locs hH => ?_)
  refine lv_istore_n (lv' := [(3, .int (gi x_5)), (0, .ref (w.1 + a0))]) hM.fx.1 hM.fx.2.1 dX9_endedWith_41 rfl hl (by decide) rfl (fun ls hl => ?_)
  refine lv_aload_n hM.fx.1 hM.fx.2.1 dX9_endedWith_42 rfl (lv_at hl 1 rfl) ?_
  obtain ⟨M_7, eM_7, hf⟩ := gbd hf
  refine r_go0 hH rfl (r_runV (As := []) hM hH cv_X9_347 (mX9_putsBack hLC hM.ns hg0 eM_7) (hLC.in hg0 (by decide)) (by decide) rfl rfl rfl hl.1 rfl (Nat.le_of_ble_eq_true rfl) ⟨(Nat.le_of_ble_eq_true rfl), (Nat.le_of_ble_eq_true rfl)⟩ ⟨(Nat.le_of_ble_eq_true rfl), (Nat.le_of_ble_eq_true rfl)⟩ dX9_endedWith_43) (fun hp_6 H locs hH => ?_)
  refine lv_iload_n hM.fx.1 hM.fx.2.1 dX9_endedWith_46 rfl (lv_at hl 0 rfl) ?_
  obtain rfl := Option.some.inj hf
  exact r_iret hM hH hp_4 ⟨(Nat.le_of_ble_eq_true rfl), (Nat.le_of_ble_eq_true rfl)⟩ dX9_endedWith_47
def fX9_endedWith (g : Nat → Nat) (a0 : Nat) (x1 : Int) (x2 : Int) (M : gMem) : Option (Int × gMem) :=
  (fX9_setsAside g a0 M).bind fun M_2 => if x2 = (-1) then (fX9_endedWith_25 g a0 M_2) else ((fX9_of g a0 x1 5 M_2).bind fun x_5 => (fX9_sets g a0 x1 5 (gor x_5 (gshl 1 x2)) M_2).bind fun M_7 => fX9_endedWith_25 g a0 M_7)
set_option maxHeartbeats 4000000 in
set_option maxRecDepth 100000 in
theorem mX9_endedWith {w : gW} {n : Nat} {Rm : Nat → Nat → Nat} {g : Nat → Nat} (hLC : gLC g n Rm) {l : Launch} (hl9 : l.stackTraces = false) {a0 : Nat} {x1 : Int} {x2 : Int} {M : gMem} {r : (Int × gMem)} (hg0 : g a0 = 9) (hr1 : gRI x1) (hr2 : gRI x2) (hf : fX9_endedWith g a0 x1 x2 M = some r) : gMT w n Rm l yX9_endedWith cX9_endedWith 4 (some .int) 9 245 0 0 [.ref (w.1 + a0), .int (gi x1), .int (gi x2)] M (.inr (some (.int (gi r.1)))) r.2 (gRI r.1) := by
  unfold fX9_endedWith at hf
  refine gMT.of hl9 (by decide +kernel) ((Nat.le_of_ble_eq_true rfl)) ?_
  intro p e s m below meth c hM hH ls hl
  have hM : gMC w p l s m ([.ref (w.1 + a0), .int (gi x1), .int (gi x2)] : List Value).toArray meth c cX9_endedWith 4 RX9 (some .int) := hM
  have hl : lv_has ls 4 [(0, .ref (w.1 + a0)), (1, .int (gi x1)), (2, .int (gi x2))] := hl
  refine lv_aload_n hM.fx.1 hM.fx.2.1 dX9_endedWith_0 rfl (lv_at hl 0 rfl) ?_
  obtain ⟨M_2, eM_2, hf⟩ := gbd hf
  refine r_go0 hH rfl (r_runV (As := []) hM hH cv_X9_341 (mX9_setsAside hLC hM.ns hg0 eM_2) (hLC.in hg0 (by decide)) (by decide) rfl rfl rfl hl.1 rfl (Nat.le_of_ble_eq_true rfl) ⟨(Nat.le_of_ble_eq_true rfl), (Nat.le_of_ble_eq_true rfl)⟩ ⟨(Nat.le_of_ble_eq_true rfl), (Nat.le_of_ble_eq_true rfl)⟩ dX9_endedWith_1) (fun hp_1 H locs hH => ?_)
  refine lv_iload_n hM.fx.1 hM.fx.2.1 dX9_endedWith_4 rfl (lv_at hl 2 rfl) ?_
  refine lv_iconst (v := gi (-1)) hM.fx.1 hM.fx.2.1 dX9_endedWith_5 rfl ?_
  refine r_icmp_eq (tgt := 25) hM.fx hr2 (gcR (k := -1) (by decide)) dX9_endedWith_6 (by decide) (fun h_3 => ?_) (fun h_3 => ?_)
  · have hf := gpos h_3 hf
    exact wX9_endedWith_25 hLC hM   _ _ _ hg0 hf _ _ _ hH (lv_sub hl [0] rfl)
  · have hf := gneg' h_3 hf
    refine lv_aload_n hM.fx.1 hM.fx.2.1 dX9_endedWith_9 rfl (lv_at hl 0 rfl) ?_
    refine lv_iload_n hM.fx.1 hM.fx.2.1 dX9_endedWith_10 rfl (lv_at hl 1 rfl) ?_
    refine lv_iconst (v := gi (5)) hM.fx.1 hM.fx.2.1 dX9_endedWith_11 rfl ?_
    refine lv_aload_n hM.fx.1 hM.fx.2.1 dX9_endedWith_12 rfl (lv_at hl 0 rfl) ?_
    refine lv_iload_n hM.fx.1 hM.fx.2.1 dX9_endedWith_13 rfl (lv_at hl 1 rfl) ?_
    refine lv_iconst (v := gi (5)) hM.fx.1 hM.fx.2.1 dX9_endedWith_14 rfl ?_
    obtain ⟨x_5, ex_5, hf⟩ := gbd hf
    refine r_go1 hH rfl (r_runV (As := [.int (gi x1), .int (gi 5)]) hM hH cv_X9_135 (mX9_of hLC hM.ns hg0 hr1 (gcR (k := 5) (by decide)) ex_5) (hLC.in hg0 (by decide)) (by decide) rfl rfl rfl hl.1 rfl (Nat.le_of_ble_eq_true rfl) ⟨(Nat.le_of_ble_eq_true rfl), (Nat.le_of_ble_eq_true rfl)⟩ ⟨(Nat.le_of_ble_eq_true rfl), (Nat.le_of_ble_eq_true rfl)⟩ dX9_endedWith_15) (fun hp_4 H locs hH => ?_)
    refine lv_iconst (v := gi (1)) hM.fx.1 hM.fx.2.1 dX9_endedWith_18 rfl ?_
    refine lv_iload_n hM.fx.1 hM.fx.2.1 dX9_endedWith_19 rfl (lv_at hl 2 rfl) ?_
    refine r_ishl hM.fx dX9_endedWith_20 ?_
    refine r_ior hM.fx dX9_endedWith_21 ?_
    obtain ⟨M_7, eM_7, hf⟩ := gbd hf
    refine r_go0 hH rfl (r_runV (As := [.int (gi x1), .int (gi 5), .int (gi (gor x_5 (gshl 1 x2)))]) hM hH cv_X9_42 (mX9_sets hLC hM.ns hg0 hr1 (gcR (k := 5) (by decide)) (gi_r _) eM_7) (hLC.in hg0 (by decide)) (by decide) rfl rfl rfl hl.1 rfl (Nat.le_of_ble_eq_true rfl) ⟨(Nat.le_of_ble_eq_true rfl), (Nat.le_of_ble_eq_true rfl)⟩ ⟨(Nat.le_of_ble_eq_true rfl), (Nat.le_of_ble_eq_true rfl)⟩ dX9_endedWith_22) (fun hp_6 H locs hH => ?_)
    exact wX9_endedWith_25 hLC hM   _ _ _ hg0 hf _ _ _ hH (lv_sub hl [0] rfl)
def fX9_bestSlot_86 (g : Nat → Nat) (k38 : Nat → Int → Int → Int → Int → gMem → Option (Int × gMem)) (a0 : Nat) (x1 : Int) (x2 : Int) (x3 : Int) (x4 : Int) (M : gMem) : Option (Int × gMem) :=
  gst (gwi (x4 + 1)) fun x_1 => k38 a0 x1 x2 x3 x_1 M
set_option maxHeartbeats 4000000 in
set_option maxRecDepth 100000 in
theorem wX9_bestSlot_86 {w : gW} {n : Nat} {Rm : Nat → Nat → Nat} {g : Nat → Nat} (hLC : gLC g n Rm) {p : Program} {l : Launch} {e : Env} {s : State} {m : MethodId} {args : Array Value} {below : List Frame} {meth : Method} {c : Code} (hM : gMC w p l s m args meth c cX9_bestSlot 6 RX9 (some .int)) (k38 : Nat → Int → Int → Int → Int → gMem → Option (Int × gMem)) (hk38 : ∀ (a0 : Nat) (x1 : Int) (x2 : Int) (x3 : Int) (x4 : Int) (M : gMem) (r : (Int × gMem)) (hg0 : g a0 = 9) (hr1 : gRI x1) (hr2 : gRI x2) (hr3 : gRI x3) (hr4 : gRI x4) (hf : k38 a0 x1 x2 x3 x4 M = some r) (H : Heap) (locs : List Loc) (ls : Array Slot) (hH : gH w n Rm M s H locs) (hl : lv_has ls 6 [(0, .ref (w.1 + a0)), (1, .int (gi x1)), (2, .int (gi x2)), (3, .int (gi x3)), (4, .int (gi x4))]), W p l e { frames := 10, cells := 0, slots := 0, locals := 268 } s m args below meth c H locs 0 0 (gQ w n Rm below args s 0 0 (.inr (some (.int (gi r.1)))) r.2 (gRI r.1)) (F0 m 38 ls [])) : ∀ (a0 : Nat) (x1 : Int) (x2 : Int) (x3 : Int) (x4 : Int) (M : gMem) (r : (Int × gMem)) (hg0 : g a0 = 9) (hr1 : gRI x1) (hr2 : gRI x2) (hr3 : gRI x3) (hr4 : gRI x4) (hf : fX9_bestSlot_86 g k38 a0 x1 x2 x3 x4 M = some r) (H : Heap) (locs : List Loc) (ls : Array Slot) (hH : gH w n Rm M s H locs) (hl : lv_has ls 6 [(0, .ref (w.1 + a0)), (1, .int (gi x1)), (2, .int (gi x2)), (3, .int (gi x3)), (4, .int (gi x4))]), W p l e { frames := 10, cells := 0, slots := 0, locals := 268 } s m args below meth c H locs 0 0 (gQ w n Rm below args s 0 0 (.inr (some (.int (gi r.1)))) r.2 (gRI r.1)) (F0 m 86 ls []) := by
  intro a0 x1 x2 x3 x4 M r hg0 hr1 hr2 hr3 hr4 hf H locs ls hH hl
  unfold fX9_bestSlot_86 at hf
  obtain ⟨x_1, ex_1, hf⟩ := gst_s hf
  have hx_1 : gRI x_1 := by rw [ex_1]; exact gwi_r _
  refine r_iinc (lv' := [(4, .int (gi x_1)), (0, .ref (w.1 + a0)), (1, .int (gi x1)), (2, .int (gi x2)), (3, .int (gi x3))]) hM.fx dX9_bestSlot_86 hl (k := 4) rfl (by decide) (by rw [ex_1]; rfl) (fun ls hl => ?_)
  refine lv_goto (tgt := 38) hM.fx.1 hM.fx.2.1 dX9_bestSlot_89 (by decide) ?_
  exact hk38 _ _ _ _ _ _ _ hg0 hr1 hr2 hr3 hx_1 hf _ _ _ hH (lv_sub hl [1, 2, 3, 4, 0] rfl)
def fX9_bestSlot_38 (g : Nat → Nat)  : Nat → Nat → Int → Int → Int → Int → gMem → Option (Int × gMem)
  | 0, _, _, _, _, _, _ => none
  | fu + 1, a0, x1, x2, x3, x4, M => if (0 : Int) ≤ 0 ∧ (0 : Int) < 1190 then if M (a0 + 1) (0 : Int).toNat ≤ x4 then (some (x2, M)) else ((fX9_mayUse g a0 x1 x4 M).bind fun x_5 => if x_5 = 0 then ((fX9_endedWith g a0 x1 x4 M).bind fun q_8 => gst q_8.1 fun x_9 => if x3 < x_9 then (fX9_bestSlot_86 g (fX9_bestSlot_38 g fu) a0 x1 x4 x_9 x4 q_8.2) else (fX9_bestSlot_86 g (fX9_bestSlot_38 g fu) a0 x1 x2 x3 x4 q_8.2)) else (fX9_bestSlot_86 g (fX9_bestSlot_38 g fu) a0 x1 x2 x3 x4 M)) else none
set_option maxHeartbeats 4000000 in
set_option maxRecDepth 100000 in
theorem wX9_bestSlot_38 {w : gW} {n : Nat} {Rm : Nat → Nat → Nat} {g : Nat → Nat} (hLC : gLC g n Rm) {p : Program} {l : Launch} {e : Env} {s : State} {m : MethodId} {args : Array Value} {below : List Frame} {meth : Method} {c : Code} (hM : gMC w p l s m args meth c cX9_bestSlot 6 RX9 (some .int))  : ∀ (fu : Nat), ∀ (a0 : Nat) (x1 : Int) (x2 : Int) (x3 : Int) (x4 : Int) (M : gMem) (r : (Int × gMem)) (hg0 : g a0 = 9) (hr1 : gRI x1) (hr2 : gRI x2) (hr3 : gRI x3) (hr4 : gRI x4) (hf : fX9_bestSlot_38 g fu a0 x1 x2 x3 x4 M = some r) (H : Heap) (locs : List Loc) (ls : Array Slot) (hH : gH w n Rm M s H locs) (hl : lv_has ls 6 [(0, .ref (w.1 + a0)), (1, .int (gi x1)), (2, .int (gi x2)), (3, .int (gi x3)), (4, .int (gi x4))]), W p l e { frames := 10, cells := 0, slots := 0, locals := 268 } s m args below meth c H locs 0 0 (gQ w n Rm below args s 0 0 (.inr (some (.int (gi r.1)))) r.2 (gRI r.1)) (F0 m 38 ls []) := by
  intro fu
  induction fu with
  | zero =>
    intro a0 x1 x2 x3 x4 M r hg0 hr1 hr2 hr3 hr4 hf H locs ls hH hl
    exact absurd hf (by simp [fX9_bestSlot_38])
  | succ fu ih =>
    intro a0 x1 x2 x3 x4 M r hg0 hr1 hr2 hr3 hr4 hf H locs ls hH hl
    unfold fX9_bestSlot_38 at hf
    refine lv_iload hM.fx.1 hM.fx.2.1 dX9_bestSlot_38 (lv_at hl 4 rfl) ?_
    refine lv_aload_n hM.fx.1 hM.fx.2.1 dX9_bestSlot_40 rfl (lv_at hl 0 rfl) ?_
    refine r_getR hM.fx hM.kf hH hLC fl_X9_7 hg0 gch_9_0 dX9_bestSlot_41 ?_
    refine lv_iconst (v := gi (0)) hM.fx.1 hM.fx.2.1 dX9_bestSlot_44 rfl ?_
    obtain ⟨g_1, hf⟩ := gif hf
    refine r_iald hM.fx hM.kf hH (hLC.in (hLC.ch hg0 (by decide) gch_9_0) (by decide)) (⟨by decide, by decide⟩ : gAr 19056 0) (gcR (k := 0) (by decide)) g_1 dX9_bestSlot_45 ?_
    have hr_2 := hH.2.2.i (k := (0 : Int).toNat) (hLC.in (hLC.ch hg0 (by decide) gch_9_0) (by decide)).2.2 (glg_a (⟨by decide, by decide⟩ : gAr 19056 0))
    refine r_icmp_ge (tgt := 92) hM.fx hr4 hr_2 dX9_bestSlot_46 (by decide) (fun h_3 => ?_) (fun h_3 => ?_)
    · have hf := gpos h_3 hf
      refine lv_iload_n hM.fx.1 hM.fx.2.1 dX9_bestSlot_92 rfl (lv_at hl 2 rfl) ?_
      obtain rfl := Option.some.inj hf
      exact r_iret hM hH hr2 ⟨(Nat.le_of_ble_eq_true rfl), (Nat.le_of_ble_eq_true rfl)⟩ dX9_bestSlot_93
    · have hf := gneg' h_3 hf
      refine lv_aload_n hM.fx.1 hM.fx.2.1 dX9_bestSlot_49 rfl (lv_at hl 0 rfl) ?_
      refine lv_iload_n hM.fx.1 hM.fx.2.1 dX9_bestSlot_50 rfl (lv_at hl 1 rfl) ?_
      refine lv_iload hM.fx.1 hM.fx.2.1 dX9_bestSlot_51 (lv_at hl 4 rfl) ?_
      obtain ⟨x_5, ex_5, hf⟩ := gbd hf
      refine r_go1 hH rfl (r_runV (As := [.int (gi x1), .int (gi x4)]) hM hH cv_X9_206 (mX9_mayUse hLC hM.ns hg0 hr1 hr4 ex_5) (hLC.in hg0 (by decide)) (by decide) rfl rfl rfl hl.1 rfl (Nat.le_of_ble_eq_true rfl) ⟨(Nat.le_of_ble_eq_true rfl), (Nat.le_of_ble_eq_true rfl)⟩ ⟨(Nat.le_of_ble_eq_true rfl), (Nat.le_of_ble_eq_true rfl)⟩ dX9_bestSlot_53) (fun hp_4 H locs hH => ?_)
      refine r_if_eq (tgt := 62) hM.fx (gz_r hp_4) dX9_bestSlot_56 (by decide) (fun h_6 => ?_) (fun h_6 => ?_)
      · have hf := gpos h_6 hf
        refine lv_aload_n hM.fx.1 hM.fx.2.1 dX9_bestSlot_62 rfl (lv_at hl 0 rfl) ?_
        refine lv_iload_n hM.fx.1 hM.fx.2.1 dX9_bestSlot_63 rfl (lv_at hl 1 rfl) ?_
        refine lv_iload hM.fx.1 hM.fx.2.1 dX9_bestSlot_64 (lv_at hl 4 rfl) ?_
        obtain ⟨q_8, eq_8, hf⟩ := gbd hf
        refine r_go1 hH rfl (r_runV (As := [.int (gi x1), .int (gi x4)]) hM hH cv_X9_353 (mX9_endedWith hLC hM.ns hg0 hr1 hr4 eq_8) (hLC.in hg0 (by decide)) (by decide) rfl rfl rfl hl.1 rfl (Nat.le_of_ble_eq_true rfl) ⟨(Nat.le_of_ble_eq_true rfl), (Nat.le_of_ble_eq_true rfl)⟩ ⟨(Nat.le_of_ble_eq_true rfl), (Nat.le_of_ble_eq_true rfl)⟩ dX9_bestSlot_66) (fun hp_7 H locs hH => ?_)
        obtain ⟨x_9, ex_9, hf⟩ := gst_s hf
        refine W.eq (g2 := F0 m _ ls (.int (gi x_9) :: _)) (by rw [ex_9]) ?_
        have hx_9 : gRI x_9 := by rw [ex_9]; exact hp_7
        refine lv_istore (lv' := [(5, .int (gi x_9)), (0, .ref (w.1 + a0)), (1, .int (gi x1)), (2, .int (gi x2)), (3, .int (gi x3)), (4, .int (gi x4))]) hM.fx.1 hM.fx.2.1 dX9_bestSlot_69 hl (by decide) rfl (fun ls hl => ?_)
        refine lv_iload hM.fx.1 hM.fx.2.1 dX9_bestSlot_71 (lv_at hl 0 rfl) ?_
        refine lv_iload_n hM.fx.1 hM.fx.2.1 dX9_bestSlot_73 rfl (lv_at hl 4 rfl) ?_
        refine r_icmp_gt (tgt := 80) hM.fx hx_9 hr3 dX9_bestSlot_74 (by decide) (fun h_10 => ?_) (fun h_10 => ?_)
        · have hf := gpos h_10 hf
          refine lv_iload hM.fx.1 hM.fx.2.1 dX9_bestSlot_80 (lv_at hl 0 rfl) ?_
          refine lv_istore_n (lv' := [(3, .int (gi x_9)), (5, .int (gi x_9)), (0, .ref (w.1 + a0)), (1, .int (gi x1)), (2, .int (gi x2)), (4, .int (gi x4))]) hM.fx.1 hM.fx.2.1 dX9_bestSlot_82 rfl hl (by decide) rfl (fun ls hl => ?_)
          refine lv_iload hM.fx.1 hM.fx.2.1 dX9_bestSlot_83 (lv_at hl 5 rfl) ?_
          refine lv_istore_n (lv' := [(2, .int (gi x4)), (3, .int (gi x_9)), (5, .int (gi x_9)), (0, .ref (w.1 + a0)), (1, .int (gi x1)), (4, .int (gi x4))]) hM.fx.1 hM.fx.2.1 dX9_bestSlot_85 rfl hl (by decide) rfl (fun ls hl => ?_)
          exact wX9_bestSlot_86 hLC hM (fX9_bestSlot_38 g fu) ih  _ _ _ _ _ _ _ hg0 hr1 hr4 hx_9 hr4 hf _ _ _ hH (lv_sub hl [3, 4, 0, 1, 5] rfl)
        · have hf := gneg' h_10 hf
          refine lv_goto (tgt := 86) hM.fx.1 hM.fx.2.1 dX9_bestSlot_77 (by decide) ?_
          exact wX9_bestSlot_86 hLC hM (fX9_bestSlot_38 g fu) ih  _ _ _ _ _ _ _ hg0 hr1 hr2 hr3 hr4 hf _ _ _ hH (lv_sub hl [1, 2, 3, 4, 5] rfl)
      · have hf := gneg' h_6 hf
        refine lv_goto (tgt := 86) hM.fx.1 hM.fx.2.1 dX9_bestSlot_59 (by decide) ?_
        exact wX9_bestSlot_86 hLC hM (fX9_bestSlot_38 g fu) ih  _ _ _ _ _ _ _ hg0 hr1 hr2 hr3 hr4 hf _ _ _ hH hl
def fX9_bestSlot_14 (g : Nat → Nat)  (a0 : Nat) (x1 : Int) (as0 : Nat) (xs1 : Int) (M : gMem) : Option (Int × gMem) :=
  gst (gup M as0 7 xs1) fun M_1 => if M_1 a0 7 ≤ 0 then (gst ((-1)) fun x_4 => (fX9_endedWith g a0 x1 ((-1)) M_1).bind fun q_6 => gst q_6.1 fun x_7 => fX9_bestSlot_38 g gF a0 x1 x_4 x_7 0 q_6.2) else (some (0, M_1))
set_option maxHeartbeats 4000000 in
set_option maxRecDepth 100000 in
theorem wX9_bestSlot_14 {w : gW} {n : Nat} {Rm : Nat → Nat → Nat} {g : Nat → Nat} (hLC : gLC g n Rm) {p : Program} {l : Launch} {e : Env} {s : State} {m : MethodId} {args : Array Value} {below : List Frame} {meth : Method} {c : Code} (hM : gMC w p l s m args meth c cX9_bestSlot 6 RX9 (some .int))  : ∀ (a0 : Nat) (x1 : Int) (as0 : Nat) (xs1 : Int) (M : gMem) (r : (Int × gMem)) (hg0 : g a0 = 9) (hr1 : gRI x1) (hgs0 : g as0 = 9) (hrs1 : gRI xs1) (hf : fX9_bestSlot_14 g a0 x1 as0 xs1 M = some r) (H : Heap) (locs : List Loc) (ls : Array Slot) (hH : gH w n Rm M s H locs) (hl : lv_has ls 6 [(0, .ref (w.1 + a0)), (1, .int (gi x1))]), W p l e { frames := 10, cells := 0, slots := 0, locals := 268 } s m args below meth c H locs 0 0 (gQ w n Rm below args s 0 0 (.inr (some (.int (gi r.1)))) r.2 (gRI r.1)) (F0 m 14 ls [.int (gi xs1), .ref (w.1 + as0)]) := by
  intro a0 x1 as0 xs1 M r hg0 hr1 hgs0 hrs1 hf H locs ls hH hl
  unfold fX9_bestSlot_14 at hf
  refine r_putI hM.fx hM.kf hH fp_X9_46 (hLC.in hgs0 (by decide)) hrs1 dX9_bestSlot_14 (fun H locs hH => ?_)
  obtain ⟨M_1, eM_1, hf⟩ := gst_s hf
  rw [← eM_1] at hH
  refine lv_aload_n hM.fx.1 hM.fx.2.1 dX9_bestSlot_17 rfl (lv_at hl 0 rfl) ?_
  refine r_getI hM.fx hM.kf hH fl_X9_46 (hLC.in hg0 (by decide)) dX9_bestSlot_18 ?_
  have hr_2 := hH.2.2.i (hLC.in hg0 (by decide)).2.2 (by decide : glg 9 7 = false)
  refine r_if_le (tgt := 26) hM.fx hr_2 dX9_bestSlot_21 (by decide) (fun h_3 => ?_) (fun h_3 => ?_)
  · have hf := gpos h_3 hf
    refine lv_iconst (v := gi (-1)) hM.fx.1 hM.fx.2.1 dX9_bestSlot_26 rfl ?_
    obtain ⟨x_4, ex_4, hf⟩ := gst_s hf
    refine W.eq (g2 := F0 m _ ls (.int (gi x_4) :: _)) (by rw [ex_4]) ?_
    have hx_4 : gRI x_4 := by rw [ex_4]; exact (gcR (k := -1) (by decide))
    refine lv_istore_n (lv' := [(2, .int (gi x_4)), (0, .ref (w.1 + a0)), (1, .int (gi x1))]) hM.fx.1 hM.fx.2.1 dX9_bestSlot_27 rfl hl (by decide) rfl (fun ls hl => ?_)
    refine lv_aload_n hM.fx.1 hM.fx.2.1 dX9_bestSlot_28 rfl (lv_at hl 1 rfl) ?_
    refine lv_iload_n hM.fx.1 hM.fx.2.1 dX9_bestSlot_29 rfl (lv_at hl 2 rfl) ?_
    refine lv_iconst (v := gi (-1)) hM.fx.1 hM.fx.2.1 dX9_bestSlot_30 rfl ?_
    obtain ⟨q_6, eq_6, hf⟩ := gbd hf
    refine r_go1 hH rfl (r_runV (As := [.int (gi x1), .int (gi ((-1)))]) hM hH cv_X9_353 (mX9_endedWith hLC hM.ns hg0 hr1 (gcR (k := -1) (by decide)) eq_6) (hLC.in hg0 (by decide)) (by decide) rfl rfl rfl hl.1 rfl (Nat.le_of_ble_eq_true rfl) ⟨(Nat.le_of_ble_eq_true rfl), (Nat.le_of_ble_eq_true rfl)⟩ ⟨(Nat.le_of_ble_eq_true rfl), (Nat.le_of_ble_eq_true rfl)⟩ dX9_bestSlot_31) (fun hp_5 H locs hH => ?_)
    obtain ⟨x_7, ex_7, hf⟩ := gst_s hf
    refine W.eq (g2 := F0 m _ ls (.int (gi x_7) :: _)) (by rw [ex_7]) ?_
    have hx_7 : gRI x_7 := by rw [ex_7]; exact hp_5
    refine lv_istore_n (lv' := [(3, .int (gi x_7)), (2, .int (gi x_4)), (0, .ref (w.1 + a0)), (1, .int (gi x1))]) hM.fx.1 hM.fx.2.1 dX9_bestSlot_34 rfl hl (by decide) rfl (fun ls hl => ?_)
    refine lv_iconst (v := gi (0)) hM.fx.1 hM.fx.2.1 dX9_bestSlot_35 rfl ?_
    refine lv_istore (lv' := [(4, .int (gi 0)), (3, .int (gi x_7)), (2, .int (gi x_4)), (0, .ref (w.1 + a0)), (1, .int (gi x1))]) hM.fx.1 hM.fx.2.1 dX9_bestSlot_36 hl (by decide) rfl (fun ls hl => ?_)
    exact wX9_bestSlot_38 hLC hM  gF _ _ _ _ _ _ _ hg0 hr1 hx_4 hx_7 (gcR (k := 0) (by decide)) hf _ _ _ hH (lv_sub hl [3, 4, 2, 1, 0] rfl)
  · have hf := gneg' h_3 hf
    refine lv_iconst (v := gi (0)) hM.fx.1 hM.fx.2.1 dX9_bestSlot_24 rfl ?_
    obtain rfl := Option.some.inj hf
    exact r_iret hM hH (gcR (k := 0) (by decide)) ⟨(Nat.le_of_ble_eq_true rfl), (Nat.le_of_ble_eq_true rfl)⟩ dX9_bestSlot_25
def fX9_bestSlot (g : Nat → Nat) (a0 : Nat) (x1 : Int) (M : gMem) : Option (Int × gMem) :=
  (fX9_isProcess g a0 x1 M).bind fun x_2 => if x_2 = 0 then (fX9_bestSlot_14 g a0 x1 a0 1 M) else (fX9_bestSlot_14 g a0 x1 a0 0 M)
set_option maxHeartbeats 4000000 in
set_option maxRecDepth 100000 in
theorem mX9_bestSlot {w : gW} {n : Nat} {Rm : Nat → Nat → Nat} {g : Nat → Nat} (hLC : gLC g n Rm) {l : Launch} (hl9 : l.stackTraces = false) {a0 : Nat} {x1 : Int} {M : gMem} {r : (Int × gMem)} (hg0 : g a0 = 9) (hr1 : gRI x1) (hf : fX9_bestSlot g a0 x1 M = some r) : gMT w n Rm l yX9_bestSlot cX9_bestSlot 6 (some .int) 10 268 0 0 [.ref (w.1 + a0), .int (gi x1)] M (.inr (some (.int (gi r.1)))) r.2 (gRI r.1) := by
  unfold fX9_bestSlot at hf
  refine gMT.of hl9 (by decide +kernel) ((Nat.le_of_ble_eq_true rfl)) ?_
  intro p e s m below meth c hM hH ls hl
  have hM : gMC w p l s m ([.ref (w.1 + a0), .int (gi x1)] : List Value).toArray meth c cX9_bestSlot 6 RX9 (some .int) := hM
  have hl : lv_has ls 6 [(0, .ref (w.1 + a0)), (1, .int (gi x1))] := hl
  refine lv_aload_n hM.fx.1 hM.fx.2.1 dX9_bestSlot_0 rfl (lv_at hl 0 rfl) ?_
  refine lv_aload_n hM.fx.1 hM.fx.2.1 dX9_bestSlot_1 rfl (lv_at hl 0 rfl) ?_
  refine lv_iload_n hM.fx.1 hM.fx.2.1 dX9_bestSlot_2 rfl (lv_at hl 1 rfl) ?_
  obtain ⟨x_2, ex_2, hf⟩ := gbd hf
  refine r_go1 hH rfl (r_runV (As := [.int (gi x1)]) hM hH cv_X9_319 (mX9_isProcess hLC hM.ns hg0 hr1 ex_2) (hLC.in hg0 (by decide)) (by decide) rfl rfl rfl hl.1 rfl (Nat.le_of_ble_eq_true rfl) ⟨(Nat.le_of_ble_eq_true rfl), (Nat.le_of_ble_eq_true rfl)⟩ ⟨(Nat.le_of_ble_eq_true rfl), (Nat.le_of_ble_eq_true rfl)⟩ dX9_bestSlot_3) (fun hp_1 H locs hH => ?_)
  refine r_if_eq (tgt := 13) hM.fx (gz_r hp_1) dX9_bestSlot_6 (by decide) (fun h_3 => ?_) (fun h_3 => ?_)
  · have hf := gpos h_3 hf
    refine lv_iconst (v := gi (1)) hM.fx.1 hM.fx.2.1 dX9_bestSlot_13 rfl ?_
    exact wX9_bestSlot_14 hLC hM   _ _ _ _ _ _ hg0 hr1 hg0 (gcR (k := 1) (by decide)) hf _ _ _ hH hl
  · have hf := gneg' h_3 hf
    refine lv_iconst (v := gi (0)) hM.fx.1 hM.fx.2.1 dX9_bestSlot_9 rfl ?_
    refine lv_goto (tgt := 14) hM.fx.1 hM.fx.2.1 dX9_bestSlot_10 (by decide) ?_
    exact wX9_bestSlot_14 hLC hM   _ _ _ _ _ _ hg0 hr1 hg0 (gcR (k := 0) (by decide)) hf _ _ _ hH hl
def fX9_run_17 (g : Nat → Nat)  (a0 : Nat) (x1 : Int) (as0 : Nat) (xs1 : Int) (M : gMem) : Option (Int × gMem) :=
  gst (gup M as0 7 xs1) fun M_1 => if M_1 a0 7 ≤ 0 then ((fX9_keeps g a0 (a0 + 1) M_1).bind fun M_5 => (fX9_goesOn g a0 x1 M_5).bind fun q_7 => some (q_7.1, q_7.2)) else (some (0, M_1))
set_option maxHeartbeats 4000000 in
set_option maxRecDepth 100000 in
theorem wX9_run_17 {w : gW} {n : Nat} {Rm : Nat → Nat → Nat} {g : Nat → Nat} (hLC : gLC g n Rm) {p : Program} {l : Launch} {e : Env} {s : State} {m : MethodId} {args : Array Value} {below : List Frame} {meth : Method} {c : Code} (hM : gMC w p l s m args meth c cX9_run 2 RX9 (some .int))  : ∀ (a0 : Nat) (x1 : Int) (as0 : Nat) (xs1 : Int) (M : gMem) (r : (Int × gMem)) (hg0 : g a0 = 9) (hr1 : gRI x1) (hgs0 : g as0 = 9) (hrs1 : gRI xs1) (hf : fX9_run_17 g a0 x1 as0 xs1 M = some r) (H : Heap) (locs : List Loc) (ls : Array Slot) (hH : gH w n Rm M s H locs) (hl : lv_has ls 2 [(0, .ref (w.1 + a0)), (1, .int (gi x1))]), W p l e { frames := 9, cells := 0, slots := 0, locals := 245 } s m args below meth c H locs 0 0 (gQ w n Rm below args s 0 0 (.inr (some (.int (gi r.1)))) r.2 (gRI r.1)) (F0 m 17 ls [.int (gi xs1), .ref (w.1 + as0)]) := by
  intro a0 x1 as0 xs1 M r hg0 hr1 hgs0 hrs1 hf H locs ls hH hl
  unfold fX9_run_17 at hf
  refine r_putI hM.fx hM.kf hH fp_X9_46 (hLC.in hgs0 (by decide)) hrs1 dX9_run_17 (fun H locs hH => ?_)
  obtain ⟨M_1, eM_1, hf⟩ := gst_s hf
  rw [← eM_1] at hH
  refine lv_aload_n hM.fx.1 hM.fx.2.1 dX9_run_20 rfl (lv_at hl 0 rfl) ?_
  refine r_getI hM.fx hM.kf hH fl_X9_46 (hLC.in hg0 (by decide)) dX9_run_21 ?_
  have hr_2 := hH.2.2.i (hLC.in hg0 (by decide)).2.2 (by decide : glg 9 7 = false)
  refine r_if_le (tgt := 29) hM.fx hr_2 dX9_run_24 (by decide) (fun h_3 => ?_) (fun h_3 => ?_)
  · have hf := gpos h_3 hf
    refine lv_aload_n hM.fx.1 hM.fx.2.1 dX9_run_29 rfl (lv_at hl 0 rfl) ?_
    refine lv_aload_n hM.fx.1 hM.fx.2.1 dX9_run_30 rfl (lv_at hl 0 rfl) ?_
    refine r_getR hM.fx hM.kf hH hLC fl_X9_7 hg0 gch_9_0 dX9_run_31 ?_
    obtain ⟨M_5, eM_5, hf⟩ := gbd hf
    refine r_go0 hH rfl (r_runV (As := [.ref (w.1 + (a0 + 1))]) hM hH cv_X9_60 (mX9_keeps hLC hM.ns hg0 (by rw [(hLC.ch hg0 (by decide) gch_9_0)]; exact (⟨by decide, by decide⟩ : gAr 19056 0)) eM_5) (hLC.in hg0 (by decide)) (by decide) rfl rfl rfl hl.1 rfl (Nat.le_of_ble_eq_true rfl) ⟨(Nat.le_of_ble_eq_true rfl), (Nat.le_of_ble_eq_true rfl)⟩ ⟨(Nat.le_of_ble_eq_true rfl), (Nat.le_of_ble_eq_true rfl)⟩ dX9_run_34) (fun hp_4 H locs hH => ?_)
    refine lv_aload_n hM.fx.1 hM.fx.2.1 dX9_run_37 rfl (lv_at hl 0 rfl) ?_
    refine lv_iload_n hM.fx.1 hM.fx.2.1 dX9_run_38 rfl (lv_at hl 1 rfl) ?_
    obtain ⟨q_7, eq_7, hf⟩ := gbd hf
    refine r_go1 hH rfl (r_runV (As := [.int (gi x1)]) hM hH cv_X9_344 (mX9_goesOn hLC hM.ns hg0 hr1 eq_7) (hLC.in hg0 (by decide)) (by decide) rfl rfl rfl hl.1 rfl (Nat.le_of_ble_eq_true rfl) ⟨(Nat.le_of_ble_eq_true rfl), (Nat.le_of_ble_eq_true rfl)⟩ ⟨(Nat.le_of_ble_eq_true rfl), (Nat.le_of_ble_eq_true rfl)⟩ dX9_run_39) (fun hp_6 H locs hH => ?_)
    obtain rfl := Option.some.inj hf
    exact r_iret hM hH hp_6 ⟨(Nat.le_of_ble_eq_true rfl), (Nat.le_of_ble_eq_true rfl)⟩ dX9_run_42
  · have hf := gneg' h_3 hf
    refine lv_iconst (v := gi (0)) hM.fx.1 hM.fx.2.1 dX9_run_27 rfl ?_
    obtain rfl := Option.some.inj hf
    exact r_iret hM hH (gcR (k := 0) (by decide)) ⟨(Nat.le_of_ble_eq_true rfl), (Nat.le_of_ble_eq_true rfl)⟩ dX9_run_28
def fX9_run (g : Nat → Nat) (a0 : Nat) (x1 : Int) (M : gMem) : Option (Int × gMem) :=
  (fX9_isIn g x1 1 300).bind fun x_2 => if x_2 = 0 then (fX9_run_17 g a0 x1 a0 1 M) else (fX9_run_17 g a0 x1 a0 0 M)
set_option maxHeartbeats 4000000 in
set_option maxRecDepth 100000 in
theorem mX9_run {w : gW} {n : Nat} {Rm : Nat → Nat → Nat} {g : Nat → Nat} (hLC : gLC g n Rm) {l : Launch} (hl9 : l.stackTraces = false) {a0 : Nat} {x1 : Int} {M : gMem} {r : (Int × gMem)} (hg0 : g a0 = 9) (hr1 : gRI x1) (hf : fX9_run g a0 x1 M = some r) : gMT w n Rm l yX9_run cX9_run 2 (some .int) 9 245 0 0 [.ref (w.1 + a0), .int (gi x1)] M (.inr (some (.int (gi r.1)))) r.2 (gRI r.1) := by
  unfold fX9_run at hf
  refine gMT.of hl9 (by decide +kernel) ((Nat.le_of_ble_eq_true rfl)) ?_
  intro p e s m below meth c hM hH ls hl
  have hM : gMC w p l s m ([.ref (w.1 + a0), .int (gi x1)] : List Value).toArray meth c cX9_run 2 RX9 (some .int) := hM
  have hl : lv_has ls 2 [(0, .ref (w.1 + a0)), (1, .int (gi x1))] := hl
  refine lv_aload_n hM.fx.1 hM.fx.2.1 dX9_run_0 rfl (lv_at hl 0 rfl) ?_
  refine lv_iload_n hM.fx.1 hM.fx.2.1 dX9_run_1 rfl (lv_at hl 1 rfl) ?_
  refine lv_iconst (v := gi (1)) hM.fx.1 hM.fx.2.1 dX9_run_2 rfl ?_
  refine lv_sipush (v := gi (300)) hM.fx.1 hM.fx.2.1 dX9_run_3 (by decide) ?_
  obtain ⟨x_2, ex_2, hf⟩ := gbd hf
  refine r_go1 hH rfl (r_runS (As := [.int (gi x1), .int (gi 1), .int (gi 300)]) hM hH cs_X9_56 (mX9_isIn hLC hM.ns hr1 (gcR (k := 1) (by decide)) (gcR (k := 300) (by decide)) ex_2) rfl hl.1 rfl (Nat.le_of_ble_eq_true rfl) ⟨(Nat.le_of_ble_eq_true rfl), (Nat.le_of_ble_eq_true rfl)⟩ ⟨(Nat.le_of_ble_eq_true rfl), (Nat.le_of_ble_eq_true rfl)⟩ dX9_run_6) (fun hp_1 H locs hH => ?_)
  refine r_if_eq (tgt := 16) hM.fx (gz_r hp_1) dX9_run_9 (by decide) (fun h_3 => ?_) (fun h_3 => ?_)
  · have hf := gpos h_3 hf
    refine lv_iconst (v := gi (1)) hM.fx.1 hM.fx.2.1 dX9_run_16 rfl ?_
    exact wX9_run_17 hLC hM   _ _ _ _ _ _ hg0 hr1 hg0 (gcR (k := 1) (by decide)) hf _ _ _ hH hl
  · have hf := gneg' h_3 hf
    refine lv_iconst (v := gi (0)) hM.fx.1 hM.fx.2.1 dX9_run_12 rfl ?_
    refine lv_goto (tgt := 17) hM.fx.1 hM.fx.2.1 dX9_run_13 (by decide) ?_
    exact wX9_run_17 hLC hM   _ _ _ _ _ _ hg0 hr1 hg0 (gcR (k := 0) (by decide)) hf _ _ _ hH hl
def fX9_allow_74 (g : Nat → Nat)  (a0 : Nat) (x1 : Int) (as0 : Nat) (xs1 : Int) (xs2 : Int) (xs3 : Int) (M : gMem) : Option (Int × gMem) :=
  (fX9_sets g as0 xs1 xs2 xs3 M).bind fun M_2 => (fX9_of g a0 x1 5 M_2).bind fun x_4 => some (x_4, M_2)
set_option maxHeartbeats 4000000 in
set_option maxRecDepth 100000 in
theorem wX9_allow_74 {w : gW} {n : Nat} {Rm : Nat → Nat → Nat} {g : Nat → Nat} (hLC : gLC g n Rm) {p : Program} {l : Launch} {e : Env} {s : State} {m : MethodId} {args : Array Value} {below : List Frame} {meth : Method} {c : Code} (hM : gMC w p l s m args meth c cX9_allow 4 RX9 (some .int))  : ∀ (a0 : Nat) (x1 : Int) (as0 : Nat) (xs1 : Int) (xs2 : Int) (xs3 : Int) (M : gMem) (r : (Int × gMem)) (hg0 : g a0 = 9) (hr1 : gRI x1) (hgs0 : g as0 = 9) (hrs1 : gRI xs1) (hrs2 : gRI xs2) (hrs3 : gRI xs3) (hf : fX9_allow_74 g a0 x1 as0 xs1 xs2 xs3 M = some r) (H : Heap) (locs : List Loc) (ls : Array Slot) (hH : gH w n Rm M s H locs) (hl : lv_has ls 4 [(0, .ref (w.1 + a0)), (1, .int (gi x1))]), W p l e { frames := 3, cells := 0, slots := 0, locals := 106 } s m args below meth c H locs 0 0 (gQ w n Rm below args s 0 0 (.inr (some (.int (gi r.1)))) r.2 (gRI r.1)) (F0 m 74 ls [.int (gi xs3), .int (gi xs2), .int (gi xs1), .ref (w.1 + as0)]) := by
  intro a0 x1 as0 xs1 xs2 xs3 M r hg0 hr1 hgs0 hrs1 hrs2 hrs3 hf H locs ls hH hl
  unfold fX9_allow_74 at hf
  obtain ⟨M_2, eM_2, hf⟩ := gbd hf
  refine r_go0 hH rfl (r_runV (As := [.int (gi xs1), .int (gi xs2), .int (gi xs3)]) hM hH cv_X9_42 (mX9_sets hLC hM.ns hgs0 hrs1 hrs2 hrs3 eM_2) (hLC.in hgs0 (by decide)) (by decide) rfl rfl rfl hl.1 rfl (Nat.le_of_ble_eq_true rfl) ⟨(Nat.le_of_ble_eq_true rfl), (Nat.le_of_ble_eq_true rfl)⟩ ⟨(Nat.le_of_ble_eq_true rfl), (Nat.le_of_ble_eq_true rfl)⟩ dX9_allow_74) (fun hp_1 H locs hH => ?_)
  refine lv_aload_n hM.fx.1 hM.fx.2.1 dX9_allow_77 rfl (lv_at hl 0 rfl) ?_
  refine lv_iload_n hM.fx.1 hM.fx.2.1 dX9_allow_78 rfl (lv_at hl 1 rfl) ?_
  refine lv_iconst (v := gi (5)) hM.fx.1 hM.fx.2.1 dX9_allow_79 rfl ?_
  obtain ⟨x_4, ex_4, hf⟩ := gbd hf
  refine r_go1 hH rfl (r_runV (As := [.int (gi x1), .int (gi 5)]) hM hH cv_X9_135 (mX9_of hLC hM.ns hg0 hr1 (gcR (k := 5) (by decide)) ex_4) (hLC.in hg0 (by decide)) (by decide) rfl rfl rfl hl.1 rfl (Nat.le_of_ble_eq_true rfl) ⟨(Nat.le_of_ble_eq_true rfl), (Nat.le_of_ble_eq_true rfl)⟩ ⟨(Nat.le_of_ble_eq_true rfl), (Nat.le_of_ble_eq_true rfl)⟩ dX9_allow_80) (fun hp_3 H locs hH => ?_)
  obtain rfl := Option.some.inj hf
  exact r_iret hM hH hp_3 ⟨(Nat.le_of_ble_eq_true rfl), (Nat.le_of_ble_eq_true rfl)⟩ dX9_allow_83
def fX9_allow_22 (g : Nat → Nat)  (a0 : Nat) (x1 : Int) (x2 : Int) (x3 : Int) (as0 : Nat) (xs1 : Int) (M : gMem) : Option (Int × gMem) :=
  gst (gup M as0 7 xs1) fun M_1 => if M_1 a0 7 ≤ 0 then ((fX9_keeps g a0 (a0 + 1) M_1).bind fun M_5 => if x3 = 0 then ((fX9_of g a0 x1 5 M_5).bind fun x_8 => fX9_allow_74 g a0 x1 a0 x1 5 (gand x_8 (gxor (gshl 1 x2) ((-1)))) M_5) else ((fX9_of g a0 x1 5 M_5).bind fun x_10 => fX9_allow_74 g a0 x1 a0 x1 5 (gor x_10 (gshl 1 x2)) M_5)) else (some (0, M_1))
set_option maxHeartbeats 4000000 in
set_option maxRecDepth 100000 in
theorem wX9_allow_22 {w : gW} {n : Nat} {Rm : Nat → Nat → Nat} {g : Nat → Nat} (hLC : gLC g n Rm) {p : Program} {l : Launch} {e : Env} {s : State} {m : MethodId} {args : Array Value} {below : List Frame} {meth : Method} {c : Code} (hM : gMC w p l s m args meth c cX9_allow 4 RX9 (some .int))  : ∀ (a0 : Nat) (x1 : Int) (x2 : Int) (x3 : Int) (as0 : Nat) (xs1 : Int) (M : gMem) (r : (Int × gMem)) (hg0 : g a0 = 9) (hr1 : gRI x1) (hr2 : gRI x2) (hr3 : gRI x3) (hgs0 : g as0 = 9) (hrs1 : gRI xs1) (hf : fX9_allow_22 g a0 x1 x2 x3 as0 xs1 M = some r) (H : Heap) (locs : List Loc) (ls : Array Slot) (hH : gH w n Rm M s H locs) (hl : lv_has ls 4 [(0, .ref (w.1 + a0)), (1, .int (gi x1)), (2, .int (gi x2)), (3, .int (gi x3))]), W p l e { frames := 3, cells := 0, slots := 0, locals := 106 } s m args below meth c H locs 0 0 (gQ w n Rm below args s 0 0 (.inr (some (.int (gi r.1)))) r.2 (gRI r.1)) (F0 m 22 ls [.int (gi xs1), .ref (w.1 + as0)]) := by
  intro a0 x1 x2 x3 as0 xs1 M r hg0 hr1 hr2 hr3 hgs0 hrs1 hf H locs ls hH hl
  unfold fX9_allow_22 at hf
  refine r_putI hM.fx hM.kf hH fp_X9_46 (hLC.in hgs0 (by decide)) hrs1 dX9_allow_22 (fun H locs hH => ?_)
  obtain ⟨M_1, eM_1, hf⟩ := gst_s hf
  rw [← eM_1] at hH
  refine lv_aload_n hM.fx.1 hM.fx.2.1 dX9_allow_25 rfl (lv_at hl 0 rfl) ?_
  refine r_getI hM.fx hM.kf hH fl_X9_46 (hLC.in hg0 (by decide)) dX9_allow_26 ?_
  have hr_2 := hH.2.2.i (hLC.in hg0 (by decide)).2.2 (by decide : glg 9 7 = false)
  refine r_if_le (tgt := 34) hM.fx hr_2 dX9_allow_29 (by decide) (fun h_3 => ?_) (fun h_3 => ?_)
  · have hf := gpos h_3 hf
    refine lv_aload_n hM.fx.1 hM.fx.2.1 dX9_allow_34 rfl (lv_at hl 0 rfl) ?_
    refine lv_aload_n hM.fx.1 hM.fx.2.1 dX9_allow_35 rfl (lv_at hl 0 rfl) ?_
    refine r_getR hM.fx hM.kf hH hLC fl_X9_7 hg0 gch_9_0 dX9_allow_36 ?_
    obtain ⟨M_5, eM_5, hf⟩ := gbd hf
    refine r_go0 hH rfl (r_runV (As := [.ref (w.1 + (a0 + 1))]) hM hH cv_X9_60 (mX9_keeps hLC hM.ns hg0 (by rw [(hLC.ch hg0 (by decide) gch_9_0)]; exact (⟨by decide, by decide⟩ : gAr 19056 0)) eM_5) (hLC.in hg0 (by decide)) (by decide) rfl rfl rfl hl.1 rfl (Nat.le_of_ble_eq_true rfl) ⟨(Nat.le_of_ble_eq_true rfl), (Nat.le_of_ble_eq_true rfl)⟩ ⟨(Nat.le_of_ble_eq_true rfl), (Nat.le_of_ble_eq_true rfl)⟩ dX9_allow_39) (fun hp_4 H locs hH => ?_)
    refine lv_aload_n hM.fx.1 hM.fx.2.1 dX9_allow_42 rfl (lv_at hl 0 rfl) ?_
    refine lv_iload_n hM.fx.1 hM.fx.2.1 dX9_allow_43 rfl (lv_at hl 1 rfl) ?_
    refine lv_iconst (v := gi (5)) hM.fx.1 hM.fx.2.1 dX9_allow_44 rfl ?_
    refine lv_iload_n hM.fx.1 hM.fx.2.1 dX9_allow_45 rfl (lv_at hl 3 rfl) ?_
    refine r_if_eq (tgt := 62) hM.fx hr3 dX9_allow_46 (by decide) (fun h_6 => ?_) (fun h_6 => ?_)
    · have hf := gpos h_6 hf
      refine lv_aload_n hM.fx.1 hM.fx.2.1 dX9_allow_62 rfl (lv_at hl 0 rfl) ?_
      refine lv_iload_n hM.fx.1 hM.fx.2.1 dX9_allow_63 rfl (lv_at hl 1 rfl) ?_
      refine lv_iconst (v := gi (5)) hM.fx.1 hM.fx.2.1 dX9_allow_64 rfl ?_
      obtain ⟨x_8, ex_8, hf⟩ := gbd hf
      refine r_go1 hH rfl (r_runV (As := [.int (gi x1), .int (gi 5)]) hM hH cv_X9_135 (mX9_of hLC hM.ns hg0 hr1 (gcR (k := 5) (by decide)) ex_8) (hLC.in hg0 (by decide)) (by decide) rfl rfl rfl hl.1 rfl (Nat.le_of_ble_eq_true rfl) ⟨(Nat.le_of_ble_eq_true rfl), (Nat.le_of_ble_eq_true rfl)⟩ ⟨(Nat.le_of_ble_eq_true rfl), (Nat.le_of_ble_eq_true rfl)⟩ dX9_allow_65) (fun hp_7 H locs hH => ?_)
      refine lv_iconst (v := gi (1)) hM.fx.1 hM.fx.2.1 dX9_allow_68 rfl ?_
      refine lv_iload_n hM.fx.1 hM.fx.2.1 dX9_allow_69 rfl (lv_at hl 2 rfl) ?_
      refine r_ishl hM.fx dX9_allow_70 ?_
      refine lv_iconst (v := gi (-1)) hM.fx.1 hM.fx.2.1 dX9_allow_71 rfl ?_
      refine r_ixor hM.fx dX9_allow_72 ?_
      refine r_iand hM.fx dX9_allow_73 ?_
      exact wX9_allow_74 hLC hM   _ _ _ _ _ _ _ _ hg0 hr1 hg0 hr1 (gcR (k := 5) (by decide)) (gi_r _) hf _ _ _ hH (lv_sub hl [0, 1] rfl)
    · have hf := gneg' h_6 hf
      refine lv_aload_n hM.fx.1 hM.fx.2.1 dX9_allow_49 rfl (lv_at hl 0 rfl) ?_
      refine lv_iload_n hM.fx.1 hM.fx.2.1 dX9_allow_50 rfl (lv_at hl 1 rfl) ?_
      refine lv_iconst (v := gi (5)) hM.fx.1 hM.fx.2.1 dX9_allow_51 rfl ?_
      obtain ⟨x_10, ex_10, hf⟩ := gbd hf
      refine r_go1 hH rfl (r_runV (As := [.int (gi x1), .int (gi 5)]) hM hH cv_X9_135 (mX9_of hLC hM.ns hg0 hr1 (gcR (k := 5) (by decide)) ex_10) (hLC.in hg0 (by decide)) (by decide) rfl rfl rfl hl.1 rfl (Nat.le_of_ble_eq_true rfl) ⟨(Nat.le_of_ble_eq_true rfl), (Nat.le_of_ble_eq_true rfl)⟩ ⟨(Nat.le_of_ble_eq_true rfl), (Nat.le_of_ble_eq_true rfl)⟩ dX9_allow_52) (fun hp_9 H locs hH => ?_)
      refine lv_iconst (v := gi (1)) hM.fx.1 hM.fx.2.1 dX9_allow_55 rfl ?_
      refine lv_iload_n hM.fx.1 hM.fx.2.1 dX9_allow_56 rfl (lv_at hl 2 rfl) ?_
      refine r_ishl hM.fx dX9_allow_57 ?_
      refine r_ior hM.fx dX9_allow_58 ?_
      refine lv_goto (tgt := 74) hM.fx.1 hM.fx.2.1 dX9_allow_59 (by decide) ?_
      exact wX9_allow_74 hLC hM   _ _ _ _ _ _ _ _ hg0 hr1 hg0 hr1 (gcR (k := 5) (by decide)) (gi_r _) hf _ _ _ hH (lv_sub hl [0, 1] rfl)
  · have hf := gneg' h_3 hf
    refine lv_iconst (v := gi (0)) hM.fx.1 hM.fx.2.1 dX9_allow_32 rfl ?_
    obtain rfl := Option.some.inj hf
    exact r_iret hM hH (gcR (k := 0) (by decide)) ⟨(Nat.le_of_ble_eq_true rfl), (Nat.le_of_ble_eq_true rfl)⟩ dX9_allow_33
def fX9_allow_21 (g : Nat → Nat)  (a0 : Nat) (x1 : Int) (x2 : Int) (x3 : Int) (as0 : Nat) (M : gMem) : Option (Int × gMem) :=
  fX9_allow_22 g a0 x1 x2 x3 as0 1 M
set_option maxHeartbeats 4000000 in
set_option maxRecDepth 100000 in
theorem wX9_allow_21 {w : gW} {n : Nat} {Rm : Nat → Nat → Nat} {g : Nat → Nat} (hLC : gLC g n Rm) {p : Program} {l : Launch} {e : Env} {s : State} {m : MethodId} {args : Array Value} {below : List Frame} {meth : Method} {c : Code} (hM : gMC w p l s m args meth c cX9_allow 4 RX9 (some .int))  : ∀ (a0 : Nat) (x1 : Int) (x2 : Int) (x3 : Int) (as0 : Nat) (M : gMem) (r : (Int × gMem)) (hg0 : g a0 = 9) (hr1 : gRI x1) (hr2 : gRI x2) (hr3 : gRI x3) (hgs0 : g as0 = 9) (hf : fX9_allow_21 g a0 x1 x2 x3 as0 M = some r) (H : Heap) (locs : List Loc) (ls : Array Slot) (hH : gH w n Rm M s H locs) (hl : lv_has ls 4 [(0, .ref (w.1 + a0)), (1, .int (gi x1)), (2, .int (gi x2)), (3, .int (gi x3))]), W p l e { frames := 3, cells := 0, slots := 0, locals := 106 } s m args below meth c H locs 0 0 (gQ w n Rm below args s 0 0 (.inr (some (.int (gi r.1)))) r.2 (gRI r.1)) (F0 m 21 ls [.ref (w.1 + as0)]) := by
  intro a0 x1 x2 x3 as0 M r hg0 hr1 hr2 hr3 hgs0 hf H locs ls hH hl
  unfold fX9_allow_21 at hf
  refine lv_iconst (v := gi (1)) hM.fx.1 hM.fx.2.1 dX9_allow_21 rfl ?_
  exact wX9_allow_22 hLC hM   _ _ _ _ _ _ _ _ hg0 hr1 hr2 hr3 hgs0 (gcR (k := 1) (by decide)) hf _ _ _ hH hl
def fX9_allow (g : Nat → Nat) (a0 : Nat) (x1 : Int) (x2 : Int) (x3 : Int) (M : gMem) : Option (Int × gMem) :=
  (fX9_isProcess g a0 x1 M).bind fun x_2 => if x_2 = 0 then (fX9_allow_21 g a0 x1 x2 x3 a0 M) else ((fX9_isSlot g a0 x2 M).bind fun x_5 => if x_5 = 0 then (fX9_allow_21 g a0 x1 x2 x3 a0 M) else (fX9_allow_22 g a0 x1 x2 x3 a0 0 M))
set_option maxHeartbeats 4000000 in
set_option maxRecDepth 100000 in
theorem mX9_allow {w : gW} {n : Nat} {Rm : Nat → Nat → Nat} {g : Nat → Nat} (hLC : gLC g n Rm) {l : Launch} (hl9 : l.stackTraces = false) {a0 : Nat} {x1 : Int} {x2 : Int} {x3 : Int} {M : gMem} {r : (Int × gMem)} (hg0 : g a0 = 9) (hr1 : gRI x1) (hr2 : gRI x2) (hr3 : gRI x3) (hf : fX9_allow g a0 x1 x2 x3 M = some r) : gMT w n Rm l yX9_allow cX9_allow 4 (some .int) 3 106 0 0 [.ref (w.1 + a0), .int (gi x1), .int (gi x2), .int (gi x3)] M (.inr (some (.int (gi r.1)))) r.2 (gRI r.1) := by
  unfold fX9_allow at hf
  refine gMT.of hl9 (by decide +kernel) ((Nat.le_of_ble_eq_true rfl)) ?_
  intro p e s m below meth c hM hH ls hl
  have hM : gMC w p l s m ([.ref (w.1 + a0), .int (gi x1), .int (gi x2), .int (gi x3)] : List Value).toArray meth c cX9_allow 4 RX9 (some .int) := hM
  have hl : lv_has ls 4 [(0, .ref (w.1 + a0)), (1, .int (gi x1)), (2, .int (gi x2)), (3, .int (gi x3))] := hl
  refine lv_aload_n hM.fx.1 hM.fx.2.1 dX9_allow_0 rfl (lv_at hl 0 rfl) ?_
  refine lv_aload_n hM.fx.1 hM.fx.2.1 dX9_allow_1 rfl (lv_at hl 0 rfl) ?_
  refine lv_iload_n hM.fx.1 hM.fx.2.1 dX9_allow_2 rfl (lv_at hl 1 rfl) ?_
  obtain ⟨x_2, ex_2, hf⟩ := gbd hf
  refine r_go1 hH rfl (r_runV (As := [.int (gi x1)]) hM hH cv_X9_319 (mX9_isProcess hLC hM.ns hg0 hr1 ex_2) (hLC.in hg0 (by decide)) (by decide) rfl rfl rfl hl.1 rfl (Nat.le_of_ble_eq_true rfl) ⟨(Nat.le_of_ble_eq_true rfl), (Nat.le_of_ble_eq_true rfl)⟩ ⟨(Nat.le_of_ble_eq_true rfl), (Nat.le_of_ble_eq_true rfl)⟩ dX9_allow_3) (fun hp_1 H locs hH => ?_)
  refine r_if_eq (tgt := 21) hM.fx (gz_r hp_1) dX9_allow_6 (by decide) (fun h_3 => ?_) (fun h_3 => ?_)
  · have hf := gpos h_3 hf
    exact wX9_allow_21 hLC hM   _ _ _ _ _ _ _ hg0 hr1 hr2 hr3 hg0 hf _ _ _ hH hl
  · have hf := gneg' h_3 hf
    refine lv_aload_n hM.fx.1 hM.fx.2.1 dX9_allow_9 rfl (lv_at hl 0 rfl) ?_
    refine lv_iload_n hM.fx.1 hM.fx.2.1 dX9_allow_10 rfl (lv_at hl 2 rfl) ?_
    obtain ⟨x_5, ex_5, hf⟩ := gbd hf
    refine r_go1 hH rfl (r_runV (As := [.int (gi x2)]) hM hH cv_X9_326 (mX9_isSlot hLC hM.ns hg0 hr2 ex_5) (hLC.in hg0 (by decide)) (by decide) rfl rfl rfl hl.1 rfl (Nat.le_of_ble_eq_true rfl) ⟨(Nat.le_of_ble_eq_true rfl), (Nat.le_of_ble_eq_true rfl)⟩ ⟨(Nat.le_of_ble_eq_true rfl), (Nat.le_of_ble_eq_true rfl)⟩ dX9_allow_11) (fun hp_4 H locs hH => ?_)
    refine r_if_eq (tgt := 21) hM.fx (gz_r hp_4) dX9_allow_14 (by decide) (fun h_6 => ?_) (fun h_6 => ?_)
    · have hf := gpos h_6 hf
      exact wX9_allow_21 hLC hM   _ _ _ _ _ _ _ hg0 hr1 hr2 hr3 hg0 hf _ _ _ hH hl
    · have hf := gneg' h_6 hf
      refine lv_iconst (v := gi (0)) hM.fx.1 hM.fx.2.1 dX9_allow_17 rfl ?_
      refine lv_goto (tgt := 22) hM.fx.1 hM.fx.2.1 dX9_allow_18 (by decide) ?_
      exact wX9_allow_22 hLC hM   _ _ _ _ _ _ _ _ hg0 hr1 hr2 hr3 hg0 (gcR (k := 0) (by decide)) hf _ _ _ hH hl
