def fX9_readsProcess_176 (g : Nat → Nat)  : Nat → Nat → Int → Int → gMem → Option gMem
  | 0, _, _, _, _ => none
  | fu + 1, a0, x1, x2, M => if x2 = (-1) then ((fX9_isSign g a0 59 M).bind fun x_3 => (fX9_must g a0 x_3 M).bind fun M_5 => if (0 : Int) ≤ 1 ∧ (1 : Int) < 1190 then if (0 : Int) ≤ 1 ∧ (1 : Int) < 1190 then gst (gup M_5 (a0 + 1) (1 : Int).toNat (gwi (M_5 (a0 + 1) (1 : Int).toNat + 1))) fun M_9 => some M_9 else none else none) else ((fX9_readsCommand g a0 x1 x2 M).bind fun M_11 => (fX9_codeHere g a0 M_11).bind fun x_13 => fX9_readsProcess_176 g fu a0 x1 x_13 M_11)
set_option maxHeartbeats 4000000 in
set_option maxRecDepth 100000 in
theorem wX9_readsProcess_176 {w : gW} {n : Nat} {Rm : Nat → Nat → Nat} {g : Nat → Nat} (hLC : gLC g n Rm) {p : Program} {l : Launch} {e : Env} {s : State} {m : MethodId} {args : Array Value} {below : List Frame} {meth : Method} {c : Code} (hM : gMC w p l s m args meth c cX9_readsProcess 3 RX9 none)  : ∀ (fu : Nat), ∀ (a0 : Nat) (x1 : Int) (x2 : Int) (M : gMem) (r : gMem) (hg0 : g a0 = 9) (hr1 : gRI x1) (hr2 : gRI x2) (hf : fX9_readsProcess_176 g fu a0 x1 x2 M = some r) (H : Heap) (locs : List Loc) (ls : Array Slot) (hH : gH w n Rm M s H locs) (hl : lv_has ls 3 [(0, .ref (w.1 + a0)), (1, .int (gi x1)), (2, .int (gi x2))]), W p l e { frames := 10, cells := 0, slots := 0, locals := 293 } s m args below meth c H locs 0 0 (gQ w n Rm below args s 0 0 (.inr none) r True) (F0 m 176 ls []) := by
  intro fu
  induction fu with
  | zero =>
    intro a0 x1 x2 M r hg0 hr1 hr2 hf H locs ls hH hl
    exact absurd hf (by simp [fX9_readsProcess_176])
  | succ fu ih =>
    intro a0 x1 x2 M r hg0 hr1 hr2 hf H locs ls hH hl
    unfold fX9_readsProcess_176 at hf
    refine lv_iload_n hM.fx.1 hM.fx.2.1 dX9_readsProcess_176 rfl (lv_at hl 2 rfl) ?_
    refine lv_iconst (v := gi (-1)) hM.fx.1 hM.fx.2.1 dX9_readsProcess_177 rfl ?_
    refine r_icmp_eq (tgt := 195) hM.fx hr2 (gcR (k := -1) (by decide)) dX9_readsProcess_178 (by decide) (fun h_1 => ?_) (fun h_1 => ?_)
    · have hf := gpos h_1 hf
      refine lv_aload_n hM.fx.1 hM.fx.2.1 dX9_readsProcess_195 rfl (lv_at hl 0 rfl) ?_
      refine lv_aload_n hM.fx.1 hM.fx.2.1 dX9_readsProcess_196 rfl (lv_at hl 0 rfl) ?_
      refine lv_bipush (v := gi (59)) hM.fx.1 hM.fx.2.1 dX9_readsProcess_197 (by decide) ?_
      obtain ⟨x_3, ex_3, hf⟩ := gbd hf
      refine r_go1 hH rfl (r_runV (As := [.int (gi 59)]) hM hH cv_X9_127 (mX9_isSign hLC hM.ns hg0 (gcR (k := 59) (by decide)) ex_3) (hLC.in hg0 (by decide)) (by decide) rfl rfl rfl hl.1 rfl (Nat.le_of_ble_eq_true rfl) ⟨(Nat.le_of_ble_eq_true rfl), (Nat.le_of_ble_eq_true rfl)⟩ ⟨(Nat.le_of_ble_eq_true rfl), (Nat.le_of_ble_eq_true rfl)⟩ dX9_readsProcess_199) (fun hp_2 H locs hH => ?_)
      obtain ⟨M_5, eM_5, hf⟩ := gbd hf
      refine r_go0 hH rfl (r_runV (As := [.int (gi x_3)]) hM hH cv_X9_174 (mX9_must hLC hM.ns hg0 (gz_r hp_2) eM_5) (hLC.in hg0 (by decide)) (by decide) rfl rfl rfl hl.1 rfl (Nat.le_of_ble_eq_true rfl) ⟨(Nat.le_of_ble_eq_true rfl), (Nat.le_of_ble_eq_true rfl)⟩ ⟨(Nat.le_of_ble_eq_true rfl), (Nat.le_of_ble_eq_true rfl)⟩ dX9_readsProcess_202) (fun hp_4 H locs hH => ?_)
      refine lv_aload_n hM.fx.1 hM.fx.2.1 dX9_readsProcess_205 rfl (lv_at hl 0 rfl) ?_
      refine r_getR hM.fx hM.kf hH hLC fl_X9_7 hg0 gch_9_0 dX9_readsProcess_206 ?_
      refine lv_iconst (v := gi (1)) hM.fx.1 hM.fx.2.1 dX9_readsProcess_209 rfl ?_
      refine lv_dup2_11 hM.fx.1 hM.fx.2.1 dX9_readsProcess_210 rfl rfl ?_
      obtain ⟨g_6, hf⟩ := gif hf
      refine r_iald hM.fx hM.kf hH (hLC.in (hLC.ch hg0 (by decide) gch_9_0) (by decide)) (⟨by decide, by decide⟩ : gAr 19056 0) (gcR (k := 1) (by decide)) g_6 dX9_readsProcess_211 ?_
      have hr_7 := hH.2.2.i (k := (1 : Int).toNat) (hLC.in (hLC.ch hg0 (by decide) gch_9_0) (by decide)).2.2 (glg_a (⟨by decide, by decide⟩ : gAr 19056 0))
      refine lv_iconst (v := gi (1)) hM.fx.1 hM.fx.2.1 dX9_readsProcess_212 rfl ?_
      refine r_iadd hM.fx dX9_readsProcess_213 ?_
      obtain ⟨g_8, hf⟩ := gif hf
      refine r_iast hM.fx hM.kf hH (hLC.in (hLC.ch hg0 (by decide) gch_9_0) (by decide)) (⟨by decide, by decide⟩ : gAr 19056 0) (gcR (k := 1) (by decide)) g_8 (gwi_r _) dX9_readsProcess_214 (fun H locs hH => ?_)
      obtain ⟨M_9, eM_9, hf⟩ := gst_s hf
      rw [← eM_9] at hH
      obtain rfl := Option.some.inj hf
      exact r_vret hM hH trivial ⟨(Nat.le_of_ble_eq_true rfl), (Nat.le_of_ble_eq_true rfl)⟩ dX9_readsProcess_215
    · have hf := gneg' h_1 hf
      refine lv_aload_n hM.fx.1 hM.fx.2.1 dX9_readsProcess_181 rfl (lv_at hl 0 rfl) ?_
      refine lv_iload_n hM.fx.1 hM.fx.2.1 dX9_readsProcess_182 rfl (lv_at hl 1 rfl) ?_
      refine lv_iload_n hM.fx.1 hM.fx.2.1 dX9_readsProcess_183 rfl (lv_at hl 2 rfl) ?_
      obtain ⟨M_11, eM_11, hf⟩ := gbd hf
      refine r_go0 hH rfl (r_runV (As := [.int (gi x1), .int (gi x2)]) hM hH cv_X9_202 (mX9_readsCommand hLC hM.ns hg0 hr1 hr2 eM_11) (hLC.in hg0 (by decide)) (by decide) rfl rfl rfl hl.1 rfl (Nat.le_of_ble_eq_true rfl) ⟨(Nat.le_of_ble_eq_true rfl), (Nat.le_of_ble_eq_true rfl)⟩ ⟨(Nat.le_of_ble_eq_true rfl), (Nat.le_of_ble_eq_true rfl)⟩ dX9_readsProcess_184) (fun hp_10 H locs hH => ?_)
      refine lv_aload_n hM.fx.1 hM.fx.2.1 dX9_readsProcess_187 rfl (lv_at hl 0 rfl) ?_
      obtain ⟨x_13, ex_13, hf⟩ := gbd hf
      refine r_go1 hH rfl (r_runV (As := []) hM hH cv_X9_199 (mX9_codeHere hLC hM.ns hg0 ex_13) (hLC.in hg0 (by decide)) (by decide) rfl rfl rfl hl.1 rfl (Nat.le_of_ble_eq_true rfl) ⟨(Nat.le_of_ble_eq_true rfl), (Nat.le_of_ble_eq_true rfl)⟩ ⟨(Nat.le_of_ble_eq_true rfl), (Nat.le_of_ble_eq_true rfl)⟩ dX9_readsProcess_188) (fun hp_12 H locs hH => ?_)
      refine lv_istore_n (lv' := [(2, .int (gi x_13)), (0, .ref (w.1 + a0)), (1, .int (gi x1))]) hM.fx.1 hM.fx.2.1 dX9_readsProcess_191 rfl hl (by decide) rfl (fun ls hl => ?_)
      refine lv_goto (tgt := 176) hM.fx.1 hM.fx.2.1 dX9_readsProcess_192 (by decide) ?_
      exact ih _ _ _ _ _ hg0 hr1 hp_12 hf _ _ _ hH (lv_sub hl [1, 2, 0] rfl)
def fX9_readsProcess_161 (g : Nat → Nat)  (a0 : Nat) (x1 : Int) (M : gMem) : Option gMem :=
  (fX9_isSign g a0 58 M).bind fun x_2 => (fX9_must g a0 x_2 M).bind fun M_4 => (fX9_codeHere g a0 M_4).bind fun x_6 => fX9_readsProcess_176 g gF a0 x1 x_6 M_4
set_option maxHeartbeats 4000000 in
set_option maxRecDepth 100000 in
theorem wX9_readsProcess_161 {w : gW} {n : Nat} {Rm : Nat → Nat → Nat} {g : Nat → Nat} (hLC : gLC g n Rm) {p : Program} {l : Launch} {e : Env} {s : State} {m : MethodId} {args : Array Value} {below : List Frame} {meth : Method} {c : Code} (hM : gMC w p l s m args meth c cX9_readsProcess 3 RX9 none)  : ∀ (a0 : Nat) (x1 : Int) (M : gMem) (r : gMem) (hg0 : g a0 = 9) (hr1 : gRI x1) (hf : fX9_readsProcess_161 g a0 x1 M = some r) (H : Heap) (locs : List Loc) (ls : Array Slot) (hH : gH w n Rm M s H locs) (hl : lv_has ls 3 [(0, .ref (w.1 + a0)), (1, .int (gi x1))]), W p l e { frames := 10, cells := 0, slots := 0, locals := 293 } s m args below meth c H locs 0 0 (gQ w n Rm below args s 0 0 (.inr none) r True) (F0 m 161 ls []) := by
  intro a0 x1 M r hg0 hr1 hf H locs ls hH hl
  unfold fX9_readsProcess_161 at hf
  refine lv_aload_n hM.fx.1 hM.fx.2.1 dX9_readsProcess_161 rfl (lv_at hl 0 rfl) ?_
  refine lv_aload_n hM.fx.1 hM.fx.2.1 dX9_readsProcess_162 rfl (lv_at hl 0 rfl) ?_
  refine lv_bipush (v := gi (58)) hM.fx.1 hM.fx.2.1 dX9_readsProcess_163 (by decide) ?_
  obtain ⟨x_2, ex_2, hf⟩ := gbd hf
  refine r_go1 hH rfl (r_runV (As := [.int (gi 58)]) hM hH cv_X9_127 (mX9_isSign hLC hM.ns hg0 (gcR (k := 58) (by decide)) ex_2) (hLC.in hg0 (by decide)) (by decide) rfl rfl rfl hl.1 rfl (Nat.le_of_ble_eq_true rfl) ⟨(Nat.le_of_ble_eq_true rfl), (Nat.le_of_ble_eq_true rfl)⟩ ⟨(Nat.le_of_ble_eq_true rfl), (Nat.le_of_ble_eq_true rfl)⟩ dX9_readsProcess_165) (fun hp_1 H locs hH => ?_)
  obtain ⟨M_4, eM_4, hf⟩ := gbd hf
  refine r_go0 hH rfl (r_runV (As := [.int (gi x_2)]) hM hH cv_X9_174 (mX9_must hLC hM.ns hg0 (gz_r hp_1) eM_4) (hLC.in hg0 (by decide)) (by decide) rfl rfl rfl hl.1 rfl (Nat.le_of_ble_eq_true rfl) ⟨(Nat.le_of_ble_eq_true rfl), (Nat.le_of_ble_eq_true rfl)⟩ ⟨(Nat.le_of_ble_eq_true rfl), (Nat.le_of_ble_eq_true rfl)⟩ dX9_readsProcess_168) (fun hp_3 H locs hH => ?_)
  refine lv_aload_n hM.fx.1 hM.fx.2.1 dX9_readsProcess_171 rfl (lv_at hl 0 rfl) ?_
  obtain ⟨x_6, ex_6, hf⟩ := gbd hf
  refine r_go1 hH rfl (r_runV (As := []) hM hH cv_X9_199 (mX9_codeHere hLC hM.ns hg0 ex_6) (hLC.in hg0 (by decide)) (by decide) rfl rfl rfl hl.1 rfl (Nat.le_of_ble_eq_true rfl) ⟨(Nat.le_of_ble_eq_true rfl), (Nat.le_of_ble_eq_true rfl)⟩ ⟨(Nat.le_of_ble_eq_true rfl), (Nat.le_of_ble_eq_true rfl)⟩ dX9_readsProcess_172) (fun hp_5 H locs hH => ?_)
  refine lv_istore_n (lv' := [(2, .int (gi x_6)), (0, .ref (w.1 + a0)), (1, .int (gi x1))]) hM.fx.1 hM.fx.2.1 dX9_readsProcess_175 rfl hl (by decide) rfl (fun ls hl => ?_)
  exact wX9_readsProcess_176 hLC hM  gF _ _ _ _ _ hg0 hr1 hp_5 hf _ _ _ hH (lv_sub hl [1, 2, 0] rfl)
def fX9_readsProcess_143 (g : Nat → Nat)  (a0 : Nat) (x1 : Int) (M : gMem) : Option gMem :=
  (fX9_isWord g a0 43 M).bind fun x_2 => if x_2 = 0 then (fX9_readsProcess_161 g a0 x1 M) else ((fX9_next g a0 M).bind fun M_5 => (fX9_readsSlots g a0 x1 M_5).bind fun M_7 => fX9_readsProcess_161 g a0 x1 M_7)
set_option maxHeartbeats 4000000 in
set_option maxRecDepth 100000 in
theorem wX9_readsProcess_143 {w : gW} {n : Nat} {Rm : Nat → Nat → Nat} {g : Nat → Nat} (hLC : gLC g n Rm) {p : Program} {l : Launch} {e : Env} {s : State} {m : MethodId} {args : Array Value} {below : List Frame} {meth : Method} {c : Code} (hM : gMC w p l s m args meth c cX9_readsProcess 3 RX9 none)  : ∀ (a0 : Nat) (x1 : Int) (M : gMem) (r : gMem) (hg0 : g a0 = 9) (hr1 : gRI x1) (hf : fX9_readsProcess_143 g a0 x1 M = some r) (H : Heap) (locs : List Loc) (ls : Array Slot) (hH : gH w n Rm M s H locs) (hl : lv_has ls 3 [(0, .ref (w.1 + a0)), (1, .int (gi x1))]), W p l e { frames := 10, cells := 0, slots := 0, locals := 293 } s m args below meth c H locs 0 0 (gQ w n Rm below args s 0 0 (.inr none) r True) (F0 m 143 ls []) := by
  intro a0 x1 M r hg0 hr1 hf H locs ls hH hl
  unfold fX9_readsProcess_143 at hf
  refine lv_aload_n hM.fx.1 hM.fx.2.1 dX9_readsProcess_143 rfl (lv_at hl 0 rfl) ?_
  refine r_ldcS (tx := "may") hM.fx hM.kf 43 rfl dX9_readsProcess_144 ?_
  obtain ⟨x_2, ex_2, hf⟩ := gbd hf
  refine r_go1 hH rfl (r_runV (As := [gsR w 43]) hM hH cv_X9_170 (mX9_isWord hLC hM.ns hg0 (by decide : gtx 43 ≠ []) ex_2) (hLC.in hg0 (by decide)) (by decide) rfl rfl rfl hl.1 rfl (Nat.le_of_ble_eq_true rfl) ⟨(Nat.le_of_ble_eq_true rfl), (Nat.le_of_ble_eq_true rfl)⟩ ⟨(Nat.le_of_ble_eq_true rfl), (Nat.le_of_ble_eq_true rfl)⟩ dX9_readsProcess_146) (fun hp_1 H locs hH => ?_)
  refine r_if_eq (tgt := 161) hM.fx (gz_r hp_1) dX9_readsProcess_149 (by decide) (fun h_3 => ?_) (fun h_3 => ?_)
  · have hf := gpos h_3 hf
    exact wX9_readsProcess_161 hLC hM   _ _ _ _ hg0 hr1 hf _ _ _ hH hl
  · have hf := gneg' h_3 hf
    refine lv_aload_n hM.fx.1 hM.fx.2.1 dX9_readsProcess_152 rfl (lv_at hl 0 rfl) ?_
    obtain ⟨M_5, eM_5, hf⟩ := gbd hf
    refine r_go0 hH rfl (r_runV (As := []) hM hH cv_X9_121 (mX9_next hLC hM.ns hg0 eM_5) (hLC.in hg0 (by decide)) (by decide) rfl rfl rfl hl.1 rfl (Nat.le_of_ble_eq_true rfl) ⟨(Nat.le_of_ble_eq_true rfl), (Nat.le_of_ble_eq_true rfl)⟩ ⟨(Nat.le_of_ble_eq_true rfl), (Nat.le_of_ble_eq_true rfl)⟩ dX9_readsProcess_153) (fun hp_4 H locs hH => ?_)
    refine lv_aload_n hM.fx.1 hM.fx.2.1 dX9_readsProcess_156 rfl (lv_at hl 0 rfl) ?_
    refine lv_iload_n hM.fx.1 hM.fx.2.1 dX9_readsProcess_157 rfl (lv_at hl 1 rfl) ?_
    obtain ⟨M_7, eM_7, hf⟩ := gbd hf
    refine r_go0 hH rfl (r_runV (As := [.int (gi x1)]) hM hH cv_X9_196 (mX9_readsSlots hLC hM.ns hg0 hr1 eM_7) (hLC.in hg0 (by decide)) (by decide) rfl rfl rfl hl.1 rfl (Nat.le_of_ble_eq_true rfl) ⟨(Nat.le_of_ble_eq_true rfl), (Nat.le_of_ble_eq_true rfl)⟩ ⟨(Nat.le_of_ble_eq_true rfl), (Nat.le_of_ble_eq_true rfl)⟩ dX9_readsProcess_158) (fun hp_6 H locs hH => ?_)
    exact wX9_readsProcess_161 hLC hM   _ _ _ _ hg0 hr1 hf _ _ _ hH hl
def fX9_readsProcess_97 (g : Nat → Nat) (k57 : Nat → Int → Int → gMem → Option gMem) (a0 : Nat) (x1 : Int) (x2 : Int) (as0 : Nat) (xs1 : Int) (xs2 : Int) (xs3 : Int) (M : gMem) : Option gMem :=
  (fX9_sets g as0 xs1 xs2 xs3 M).bind fun M_2 => gst (gwi (x2 + 1)) fun x_3 => k57 a0 x1 x_3 M_2
set_option maxHeartbeats 4000000 in
set_option maxRecDepth 100000 in
theorem wX9_readsProcess_97 {w : gW} {n : Nat} {Rm : Nat → Nat → Nat} {g : Nat → Nat} (hLC : gLC g n Rm) {p : Program} {l : Launch} {e : Env} {s : State} {m : MethodId} {args : Array Value} {below : List Frame} {meth : Method} {c : Code} (hM : gMC w p l s m args meth c cX9_readsProcess 3 RX9 none) (k57 : Nat → Int → Int → gMem → Option gMem) (hk57 : ∀ (a0 : Nat) (x1 : Int) (x2 : Int) (M : gMem) (r : gMem) (hg0 : g a0 = 9) (hr1 : gRI x1) (hr2 : gRI x2) (hf : k57 a0 x1 x2 M = some r) (H : Heap) (locs : List Loc) (ls : Array Slot) (hH : gH w n Rm M s H locs) (hl : lv_has ls 3 [(0, .ref (w.1 + a0)), (1, .int (gi x1)), (2, .int (gi x2))]), W p l e { frames := 10, cells := 0, slots := 0, locals := 293 } s m args below meth c H locs 0 0 (gQ w n Rm below args s 0 0 (.inr none) r True) (F0 m 57 ls [])) : ∀ (a0 : Nat) (x1 : Int) (x2 : Int) (as0 : Nat) (xs1 : Int) (xs2 : Int) (xs3 : Int) (M : gMem) (r : gMem) (hg0 : g a0 = 9) (hr1 : gRI x1) (hr2 : gRI x2) (hgs0 : g as0 = 9) (hrs1 : gRI xs1) (hrs2 : gRI xs2) (hrs3 : gRI xs3) (hf : fX9_readsProcess_97 g k57 a0 x1 x2 as0 xs1 xs2 xs3 M = some r) (H : Heap) (locs : List Loc) (ls : Array Slot) (hH : gH w n Rm M s H locs) (hl : lv_has ls 3 [(0, .ref (w.1 + a0)), (1, .int (gi x1)), (2, .int (gi x2))]), W p l e { frames := 10, cells := 0, slots := 0, locals := 293 } s m args below meth c H locs 0 0 (gQ w n Rm below args s 0 0 (.inr none) r True) (F0 m 97 ls [.int (gi xs3), .int (gi xs2), .int (gi xs1), .ref (w.1 + as0)]) := by
  intro a0 x1 x2 as0 xs1 xs2 xs3 M r hg0 hr1 hr2 hgs0 hrs1 hrs2 hrs3 hf H locs ls hH hl
  unfold fX9_readsProcess_97 at hf
  obtain ⟨M_2, eM_2, hf⟩ := gbd hf
  refine r_go0 hH rfl (r_runV (As := [.int (gi xs1), .int (gi xs2), .int (gi xs3)]) hM hH cv_X9_42 (mX9_sets hLC hM.ns hgs0 hrs1 hrs2 hrs3 eM_2) (hLC.in hgs0 (by decide)) (by decide) rfl rfl rfl hl.1 rfl (Nat.le_of_ble_eq_true rfl) ⟨(Nat.le_of_ble_eq_true rfl), (Nat.le_of_ble_eq_true rfl)⟩ ⟨(Nat.le_of_ble_eq_true rfl), (Nat.le_of_ble_eq_true rfl)⟩ dX9_readsProcess_97) (fun hp_1 H locs hH => ?_)
  obtain ⟨x_3, ex_3, hf⟩ := gst_s hf
  have hx_3 : gRI x_3 := by rw [ex_3]; exact gwi_r _
  refine r_iinc (lv' := [(2, .int (gi x_3)), (0, .ref (w.1 + a0)), (1, .int (gi x1))]) hM.fx dX9_readsProcess_100 hl (k := 2) rfl (by decide) (by rw [ex_3]; rfl) (fun ls hl => ?_)
  refine lv_goto (tgt := 57) hM.fx.1 hM.fx.2.1 dX9_readsProcess_103 (by decide) ?_
  exact hk57 _ _ _ _ _ hg0 hr1 hx_3 hf _ _ _ hH (lv_sub hl [1, 2, 0] rfl)
def fX9_readsProcess_57 (g : Nat → Nat)  : Nat → Nat → Int → Int → gMem → Option gMem
  | 0, _, _, _, _ => none
  | fu + 1, a0, x1, x2, M => if 8 ≤ x2 then ((fX9_next g a0 M).bind fun M_3 => (fX9_sets g a0 x1 4 3 M_3).bind fun M_5 => (fX9_isWord g a0 42 M_5).bind fun x_7 => if x_7 = 0 then (fX9_readsProcess_143 g a0 x1 M_5) else ((fX9_next g a0 M_5).bind fun M_10 => (fX9_takes g a0 1 9 M_10).bind fun q_12 => (fX9_sets g a0 x1 4 q_12.1 q_12.2).bind fun M_14 => fX9_readsProcess_143 g a0 x1 M_14)) else (if M a0 11 ≤ gwi (M a0 10 + x2) then (fX9_readsProcess_97 g (fX9_readsProcess_57 g fu) a0 x1 x2 a0 x1 (gwi (10 + x2)) 0 M) else (if (0 : Int) ≤ gwi (M a0 10 + x2) ∧ (gwi (M a0 10 + x2) : Int) < 600 then fX9_readsProcess_97 g (fX9_readsProcess_57 g fu) a0 x1 x2 a0 x1 (gwi (10 + x2)) (M (a0 + 7) (gwi (M a0 10 + x2)).toNat) M else none))
set_option maxHeartbeats 4000000 in
set_option maxRecDepth 100000 in
theorem wX9_readsProcess_57 {w : gW} {n : Nat} {Rm : Nat → Nat → Nat} {g : Nat → Nat} (hLC : gLC g n Rm) {p : Program} {l : Launch} {e : Env} {s : State} {m : MethodId} {args : Array Value} {below : List Frame} {meth : Method} {c : Code} (hM : gMC w p l s m args meth c cX9_readsProcess 3 RX9 none)  : ∀ (fu : Nat), ∀ (a0 : Nat) (x1 : Int) (x2 : Int) (M : gMem) (r : gMem) (hg0 : g a0 = 9) (hr1 : gRI x1) (hr2 : gRI x2) (hf : fX9_readsProcess_57 g fu a0 x1 x2 M = some r) (H : Heap) (locs : List Loc) (ls : Array Slot) (hH : gH w n Rm M s H locs) (hl : lv_has ls 3 [(0, .ref (w.1 + a0)), (1, .int (gi x1)), (2, .int (gi x2))]), W p l e { frames := 10, cells := 0, slots := 0, locals := 293 } s m args below meth c H locs 0 0 (gQ w n Rm below args s 0 0 (.inr none) r True) (F0 m 57 ls []) := by
  intro fu
  induction fu with
  | zero =>
    intro a0 x1 x2 M r hg0 hr1 hr2 hf H locs ls hH hl
    exact absurd hf (by simp [fX9_readsProcess_57])
  | succ fu ih =>
    intro a0 x1 x2 M r hg0 hr1 hr2 hf H locs ls hH hl
    unfold fX9_readsProcess_57 at hf
    refine lv_iload_n hM.fx.1 hM.fx.2.1 dX9_readsProcess_57 rfl (lv_at hl 2 rfl) ?_
    refine lv_bipush (v := gi (8)) hM.fx.1 hM.fx.2.1 dX9_readsProcess_58 (by decide) ?_
    refine r_icmp_ge (tgt := 106) hM.fx hr2 (gcR (k := 8) (by decide)) dX9_readsProcess_60 (by decide) (fun h_1 => ?_) (fun h_1 => ?_)
    · have hf := gpos h_1 hf
      refine lv_aload_n hM.fx.1 hM.fx.2.1 dX9_readsProcess_106 rfl (lv_at hl 0 rfl) ?_
      obtain ⟨M_3, eM_3, hf⟩ := gbd hf
      refine r_go0 hH rfl (r_runV (As := []) hM hH cv_X9_121 (mX9_next hLC hM.ns hg0 eM_3) (hLC.in hg0 (by decide)) (by decide) rfl rfl rfl hl.1 rfl (Nat.le_of_ble_eq_true rfl) ⟨(Nat.le_of_ble_eq_true rfl), (Nat.le_of_ble_eq_true rfl)⟩ ⟨(Nat.le_of_ble_eq_true rfl), (Nat.le_of_ble_eq_true rfl)⟩ dX9_readsProcess_107) (fun hp_2 H locs hH => ?_)
      refine lv_aload_n hM.fx.1 hM.fx.2.1 dX9_readsProcess_110 rfl (lv_at hl 0 rfl) ?_
      refine lv_iload_n hM.fx.1 hM.fx.2.1 dX9_readsProcess_111 rfl (lv_at hl 1 rfl) ?_
      refine lv_iconst (v := gi (4)) hM.fx.1 hM.fx.2.1 dX9_readsProcess_112 rfl ?_
      refine lv_iconst (v := gi (3)) hM.fx.1 hM.fx.2.1 dX9_readsProcess_113 rfl ?_
      obtain ⟨M_5, eM_5, hf⟩ := gbd hf
      refine r_go0 hH rfl (r_runV (As := [.int (gi x1), .int (gi 4), .int (gi 3)]) hM hH cv_X9_42 (mX9_sets hLC hM.ns hg0 hr1 (gcR (k := 4) (by decide)) (gcR (k := 3) (by decide)) eM_5) (hLC.in hg0 (by decide)) (by decide) rfl rfl rfl hl.1 rfl (Nat.le_of_ble_eq_true rfl) ⟨(Nat.le_of_ble_eq_true rfl), (Nat.le_of_ble_eq_true rfl)⟩ ⟨(Nat.le_of_ble_eq_true rfl), (Nat.le_of_ble_eq_true rfl)⟩ dX9_readsProcess_114) (fun hp_4 H locs hH => ?_)
      refine lv_aload_n hM.fx.1 hM.fx.2.1 dX9_readsProcess_117 rfl (lv_at hl 0 rfl) ?_
      refine r_ldcS (tx := "turn") hM.fx hM.kf 42 rfl dX9_readsProcess_118 ?_
      obtain ⟨x_7, ex_7, hf⟩ := gbd hf
      refine r_go1 hH rfl (r_runV (As := [gsR w 42]) hM hH cv_X9_170 (mX9_isWord hLC hM.ns hg0 (by decide : gtx 42 ≠ []) ex_7) (hLC.in hg0 (by decide)) (by decide) rfl rfl rfl hl.1 rfl (Nat.le_of_ble_eq_true rfl) ⟨(Nat.le_of_ble_eq_true rfl), (Nat.le_of_ble_eq_true rfl)⟩ ⟨(Nat.le_of_ble_eq_true rfl), (Nat.le_of_ble_eq_true rfl)⟩ dX9_readsProcess_120) (fun hp_6 H locs hH => ?_)
      refine r_if_eq (tgt := 143) hM.fx (gz_r hp_6) dX9_readsProcess_123 (by decide) (fun h_8 => ?_) (fun h_8 => ?_)
      · have hf := gpos h_8 hf
        exact wX9_readsProcess_143 hLC hM   _ _ _ _ hg0 hr1 hf _ _ _ hH (lv_sub hl [0, 1] rfl)
      · have hf := gneg' h_8 hf
        refine lv_aload_n hM.fx.1 hM.fx.2.1 dX9_readsProcess_126 rfl (lv_at hl 0 rfl) ?_
        obtain ⟨M_10, eM_10, hf⟩ := gbd hf
        refine r_go0 hH rfl (r_runV (As := []) hM hH cv_X9_121 (mX9_next hLC hM.ns hg0 eM_10) (hLC.in hg0 (by decide)) (by decide) rfl rfl rfl hl.1 rfl (Nat.le_of_ble_eq_true rfl) ⟨(Nat.le_of_ble_eq_true rfl), (Nat.le_of_ble_eq_true rfl)⟩ ⟨(Nat.le_of_ble_eq_true rfl), (Nat.le_of_ble_eq_true rfl)⟩ dX9_readsProcess_127) (fun hp_9 H locs hH => ?_)
        refine lv_aload_n hM.fx.1 hM.fx.2.1 dX9_readsProcess_130 rfl (lv_at hl 0 rfl) ?_
        refine lv_iload_n hM.fx.1 hM.fx.2.1 dX9_readsProcess_131 rfl (lv_at hl 1 rfl) ?_
        refine lv_iconst (v := gi (4)) hM.fx.1 hM.fx.2.1 dX9_readsProcess_132 rfl ?_
        refine lv_aload_n hM.fx.1 hM.fx.2.1 dX9_readsProcess_133 rfl (lv_at hl 0 rfl) ?_
        refine lv_iconst (v := gi (1)) hM.fx.1 hM.fx.2.1 dX9_readsProcess_134 rfl ?_
        refine lv_bipush (v := gi (9)) hM.fx.1 hM.fx.2.1 dX9_readsProcess_135 (by decide) ?_
        obtain ⟨q_12, eq_12, hf⟩ := gbd hf
        refine r_go1 hH rfl (r_runV (As := [.int (gi 1), .int (gi 9)]) hM hH cv_X9_132 (mX9_takes hLC hM.ns hg0 (gcR (k := 1) (by decide)) (gcR (k := 9) (by decide)) eq_12) (hLC.in hg0 (by decide)) (by decide) rfl rfl rfl hl.1 rfl (Nat.le_of_ble_eq_true rfl) ⟨(Nat.le_of_ble_eq_true rfl), (Nat.le_of_ble_eq_true rfl)⟩ ⟨(Nat.le_of_ble_eq_true rfl), (Nat.le_of_ble_eq_true rfl)⟩ dX9_readsProcess_137) (fun hp_11 H locs hH => ?_)
        obtain ⟨M_14, eM_14, hf⟩ := gbd hf
        refine r_go0 hH rfl (r_runV (As := [.int (gi x1), .int (gi 4), .int (gi q_12.1)]) hM hH cv_X9_42 (mX9_sets hLC hM.ns hg0 hr1 (gcR (k := 4) (by decide)) hp_11 eM_14) (hLC.in hg0 (by decide)) (by decide) rfl rfl rfl hl.1 rfl (Nat.le_of_ble_eq_true rfl) ⟨(Nat.le_of_ble_eq_true rfl), (Nat.le_of_ble_eq_true rfl)⟩ ⟨(Nat.le_of_ble_eq_true rfl), (Nat.le_of_ble_eq_true rfl)⟩ dX9_readsProcess_140) (fun hp_13 H locs hH => ?_)
        exact wX9_readsProcess_143 hLC hM   _ _ _ _ hg0 hr1 hf _ _ _ hH (lv_sub hl [0, 1] rfl)
    · have hf := gneg' h_1 hf
      refine lv_aload_n hM.fx.1 hM.fx.2.1 dX9_readsProcess_63 rfl (lv_at hl 0 rfl) ?_
      refine lv_iload_n hM.fx.1 hM.fx.2.1 dX9_readsProcess_64 rfl (lv_at hl 1 rfl) ?_
      refine lv_bipush (v := gi (10)) hM.fx.1 hM.fx.2.1 dX9_readsProcess_65 (by decide) ?_
      refine lv_iload_n hM.fx.1 hM.fx.2.1 dX9_readsProcess_67 rfl (lv_at hl 2 rfl) ?_
      refine r_iadd hM.fx dX9_readsProcess_68 ?_
      refine lv_aload_n hM.fx.1 hM.fx.2.1 dX9_readsProcess_69 rfl (lv_at hl 0 rfl) ?_
      refine r_getI hM.fx hM.kf hH fl_X9_78 (hLC.in hg0 (by decide)) dX9_readsProcess_70 ?_
      have hr_15 := hH.2.2.i (hLC.in hg0 (by decide)).2.2 (by decide : glg 9 10 = false)
      refine lv_iload_n hM.fx.1 hM.fx.2.1 dX9_readsProcess_73 rfl (lv_at hl 2 rfl) ?_
      refine r_iadd hM.fx dX9_readsProcess_74 ?_
      refine lv_aload_n hM.fx.1 hM.fx.2.1 dX9_readsProcess_75 rfl (lv_at hl 0 rfl) ?_
      refine r_getI hM.fx hM.kf hH fl_X9_75 (hLC.in hg0 (by decide)) dX9_readsProcess_76 ?_
      have hr_16 := hH.2.2.i (hLC.in hg0 (by decide)).2.2 (by decide : glg 9 11 = false)
      refine r_icmp_ge (tgt := 96) hM.fx (gwi_r _) hr_16 dX9_readsProcess_79 (by decide) (fun h_17 => ?_) (fun h_17 => ?_)
      · have hf := gpos h_17 hf
        refine lv_iconst (v := gi (0)) hM.fx.1 hM.fx.2.1 dX9_readsProcess_96 rfl ?_
        exact wX9_readsProcess_97 hLC hM (fX9_readsProcess_57 g fu) ih  _ _ _ _ _ _ _ _ _ hg0 hr1 hr2 hg0 hr1 (gwi_r _) (gcR (k := 0) (by decide)) hf _ _ _ hH hl
      · have hf := gneg' h_17 hf
        refine lv_aload_n hM.fx.1 hM.fx.2.1 dX9_readsProcess_82 rfl (lv_at hl 0 rfl) ?_
        refine r_getR hM.fx hM.kf hH hLC fl_X9_29 hg0 gch_9_8 dX9_readsProcess_83 ?_
        refine lv_aload_n hM.fx.1 hM.fx.2.1 dX9_readsProcess_86 rfl (lv_at hl 0 rfl) ?_
        refine r_getI hM.fx hM.kf hH fl_X9_78 (hLC.in hg0 (by decide)) dX9_readsProcess_87 ?_
        have hr_18 := hH.2.2.i (hLC.in hg0 (by decide)).2.2 (by decide : glg 9 10 = false)
        refine lv_iload_n hM.fx.1 hM.fx.2.1 dX9_readsProcess_90 rfl (lv_at hl 2 rfl) ?_
        refine r_iadd hM.fx dX9_readsProcess_91 ?_
        obtain ⟨g_19, hf⟩ := gif hf
        refine r_iald hM.fx hM.kf hH (hLC.in (hLC.ch hg0 (by decide) gch_9_8) (by decide)) (⟨by decide, by decide⟩ : gAr 9616 0) (gwi_r _) g_19 dX9_readsProcess_92 ?_
        have hr_20 := hH.2.2.i (k := (gwi (M a0 10 + x2)).toNat) (hLC.in (hLC.ch hg0 (by decide) gch_9_8) (by decide)).2.2 (glg_a (⟨by decide, by decide⟩ : gAr 9616 0))
        refine lv_goto (tgt := 97) hM.fx.1 hM.fx.2.1 dX9_readsProcess_93 (by decide) ?_
        exact wX9_readsProcess_97 hLC hM (fX9_readsProcess_57 g fu) ih  _ _ _ _ _ _ _ _ _ hg0 hr1 hr2 hg0 hr1 (gwi_r _) hr_20 hf _ _ _ hH hl
def fX9_readsProcess_47 (g : Nat → Nat)  (a0 : Nat) (x1 : Int) (M : gMem) : Option gMem :=
  if M a0 14 = 0 then (fX9_readsProcess_57 g gF a0 x1 0 M) else (some M)
set_option maxHeartbeats 4000000 in
set_option maxRecDepth 100000 in
theorem wX9_readsProcess_47 {w : gW} {n : Nat} {Rm : Nat → Nat → Nat} {g : Nat → Nat} (hLC : gLC g n Rm) {p : Program} {l : Launch} {e : Env} {s : State} {m : MethodId} {args : Array Value} {below : List Frame} {meth : Method} {c : Code} (hM : gMC w p l s m args meth c cX9_readsProcess 3 RX9 none)  : ∀ (a0 : Nat) (x1 : Int) (M : gMem) (r : gMem) (hg0 : g a0 = 9) (hr1 : gRI x1) (hf : fX9_readsProcess_47 g a0 x1 M = some r) (H : Heap) (locs : List Loc) (ls : Array Slot) (hH : gH w n Rm M s H locs) (hl : lv_has ls 3 [(0, .ref (w.1 + a0)), (1, .int (gi x1))]), W p l e { frames := 10, cells := 0, slots := 0, locals := 293 } s m args below meth c H locs 0 0 (gQ w n Rm below args s 0 0 (.inr none) r True) (F0 m 47 ls []) := by
  intro a0 x1 M r hg0 hr1 hf H locs ls hH hl
  unfold fX9_readsProcess_47 at hf
  refine lv_aload_n hM.fx.1 hM.fx.2.1 dX9_readsProcess_47 rfl (lv_at hl 0 rfl) ?_
  refine r_getI hM.fx hM.kf hH fl_X9_101 (hLC.in hg0 (by decide)) dX9_readsProcess_48 ?_
  have hr_1 := hH.2.2.i (hLC.in hg0 (by decide)).2.2 (by decide : glg 9 14 = false)
  refine r_if_eq (tgt := 55) hM.fx hr_1 dX9_readsProcess_51 (by decide) (fun h_2 => ?_) (fun h_2 => ?_)
  · have hf := gpos h_2 hf
    refine lv_iconst (v := gi (0)) hM.fx.1 hM.fx.2.1 dX9_readsProcess_55 rfl ?_
    refine lv_istore_n (lv' := [(2, .int (gi 0)), (0, .ref (w.1 + a0)), (1, .int (gi x1))]) hM.fx.1 hM.fx.2.1 dX9_readsProcess_56 rfl hl (by decide) rfl (fun ls hl => ?_)
    exact wX9_readsProcess_57 hLC hM  gF _ _ _ _ _ hg0 hr1 (gcR (k := 0) (by decide)) hf _ _ _ hH (lv_sub hl [1, 2, 0] rfl)
  · have hf := gneg' h_2 hf
    obtain rfl := Option.some.inj hf
    exact r_vret hM hH trivial ⟨(Nat.le_of_ble_eq_true rfl), (Nat.le_of_ble_eq_true rfl)⟩ dX9_readsProcess_54
def fX9_readsProcess_19 (g : Nat → Nat)  (a0 : Nat) (x1 : Int) (M : gMem) : Option gMem :=
  (fX9_isWord g a0 41 M).bind fun x_2 => (fX9_must g a0 x_2 M).bind fun M_4 => (fX9_mustName g a0 M_4).bind fun M_6 => (fX9_named g a0 M_6).bind fun x_8 => if x_8 = (-1) then (fX9_readsProcess_47 g a0 x1 M_6) else ((fX9_fails g a0 ((-5)) M_6).bind fun M_11 => fX9_readsProcess_47 g a0 x1 M_11)
set_option maxHeartbeats 4000000 in
set_option maxRecDepth 100000 in
theorem wX9_readsProcess_19 {w : gW} {n : Nat} {Rm : Nat → Nat → Nat} {g : Nat → Nat} (hLC : gLC g n Rm) {p : Program} {l : Launch} {e : Env} {s : State} {m : MethodId} {args : Array Value} {below : List Frame} {meth : Method} {c : Code} (hM : gMC w p l s m args meth c cX9_readsProcess 3 RX9 none)  : ∀ (a0 : Nat) (x1 : Int) (M : gMem) (r : gMem) (hg0 : g a0 = 9) (hr1 : gRI x1) (hf : fX9_readsProcess_19 g a0 x1 M = some r) (H : Heap) (locs : List Loc) (ls : Array Slot) (hH : gH w n Rm M s H locs) (hl : lv_has ls 3 [(0, .ref (w.1 + a0)), (1, .int (gi x1))]), W p l e { frames := 10, cells := 0, slots := 0, locals := 293 } s m args below meth c H locs 0 0 (gQ w n Rm below args s 0 0 (.inr none) r True) (F0 m 19 ls []) := by
  intro a0 x1 M r hg0 hr1 hf H locs ls hH hl
  unfold fX9_readsProcess_19 at hf
  refine lv_aload_n hM.fx.1 hM.fx.2.1 dX9_readsProcess_19 rfl (lv_at hl 0 rfl) ?_
  refine lv_aload_n hM.fx.1 hM.fx.2.1 dX9_readsProcess_20 rfl (lv_at hl 0 rfl) ?_
  refine r_ldcS (tx := "process") hM.fx hM.kf 41 rfl dX9_readsProcess_21 ?_
  obtain ⟨x_2, ex_2, hf⟩ := gbd hf
  refine r_go1 hH rfl (r_runV (As := [gsR w 41]) hM hH cv_X9_170 (mX9_isWord hLC hM.ns hg0 (by decide : gtx 41 ≠ []) ex_2) (hLC.in hg0 (by decide)) (by decide) rfl rfl rfl hl.1 rfl (Nat.le_of_ble_eq_true rfl) ⟨(Nat.le_of_ble_eq_true rfl), (Nat.le_of_ble_eq_true rfl)⟩ ⟨(Nat.le_of_ble_eq_true rfl), (Nat.le_of_ble_eq_true rfl)⟩ dX9_readsProcess_23) (fun hp_1 H locs hH => ?_)
  obtain ⟨M_4, eM_4, hf⟩ := gbd hf
  refine r_go0 hH rfl (r_runV (As := [.int (gi x_2)]) hM hH cv_X9_174 (mX9_must hLC hM.ns hg0 (gz_r hp_1) eM_4) (hLC.in hg0 (by decide)) (by decide) rfl rfl rfl hl.1 rfl (Nat.le_of_ble_eq_true rfl) ⟨(Nat.le_of_ble_eq_true rfl), (Nat.le_of_ble_eq_true rfl)⟩ ⟨(Nat.le_of_ble_eq_true rfl), (Nat.le_of_ble_eq_true rfl)⟩ dX9_readsProcess_26) (fun hp_3 H locs hH => ?_)
  refine lv_aload_n hM.fx.1 hM.fx.2.1 dX9_readsProcess_29 rfl (lv_at hl 0 rfl) ?_
  obtain ⟨M_6, eM_6, hf⟩ := gbd hf
  refine r_go0 hH rfl (r_runV (As := []) hM hH cv_X9_186 (mX9_mustName hLC hM.ns hg0 eM_6) (hLC.in hg0 (by decide)) (by decide) rfl rfl rfl hl.1 rfl (Nat.le_of_ble_eq_true rfl) ⟨(Nat.le_of_ble_eq_true rfl), (Nat.le_of_ble_eq_true rfl)⟩ ⟨(Nat.le_of_ble_eq_true rfl), (Nat.le_of_ble_eq_true rfl)⟩ dX9_readsProcess_30) (fun hp_5 H locs hH => ?_)
  refine lv_aload_n hM.fx.1 hM.fx.2.1 dX9_readsProcess_33 rfl (lv_at hl 0 rfl) ?_
  obtain ⟨x_8, ex_8, hf⟩ := gbd hf
  refine r_go1 hH rfl (r_runV (As := []) hM hH cv_X9_189 (mX9_named hLC hM.ns hg0 ex_8) (hLC.in hg0 (by decide)) (by decide) rfl rfl rfl hl.1 rfl (Nat.le_of_ble_eq_true rfl) ⟨(Nat.le_of_ble_eq_true rfl), (Nat.le_of_ble_eq_true rfl)⟩ ⟨(Nat.le_of_ble_eq_true rfl), (Nat.le_of_ble_eq_true rfl)⟩ dX9_readsProcess_34) (fun hp_7 H locs hH => ?_)
  refine lv_iconst (v := gi (-1)) hM.fx.1 hM.fx.2.1 dX9_readsProcess_37 rfl ?_
  refine r_icmp_eq (tgt := 47) hM.fx hp_7 (gcR (k := -1) (by decide)) dX9_readsProcess_38 (by decide) (fun h_9 => ?_) (fun h_9 => ?_)
  · have hf := gpos h_9 hf
    exact wX9_readsProcess_47 hLC hM   _ _ _ _ hg0 hr1 hf _ _ _ hH hl
  · have hf := gneg' h_9 hf
    refine lv_aload_n hM.fx.1 hM.fx.2.1 dX9_readsProcess_41 rfl (lv_at hl 0 rfl) ?_
    refine lv_bipush (v := gi (-5)) hM.fx.1 hM.fx.2.1 dX9_readsProcess_42 (by decide) ?_
    obtain ⟨M_11, eM_11, hf⟩ := gbd hf
    refine r_go0 hH rfl (r_runV (As := [.int (gi ((-5)))]) hM hH cv_X9_117 (mX9_fails hLC hM.ns hg0 (gcR (k := -5) (by decide)) eM_11) (hLC.in hg0 (by decide)) (by decide) rfl rfl rfl hl.1 rfl (Nat.le_of_ble_eq_true rfl) ⟨(Nat.le_of_ble_eq_true rfl), (Nat.le_of_ble_eq_true rfl)⟩ ⟨(Nat.le_of_ble_eq_true rfl), (Nat.le_of_ble_eq_true rfl)⟩ dX9_readsProcess_44) (fun hp_10 H locs hH => ?_)
    exact wX9_readsProcess_47 hLC hM   _ _ _ _ hg0 hr1 hf _ _ _ hH hl
def fX9_readsProcess (g : Nat → Nat) (a0 : Nat) (M : gMem) : Option gMem :=
  if (0 : Int) ≤ 1 ∧ (1 : Int) < 1190 then gst (M (a0 + 1) (1 : Int).toNat) fun x_3 => if x_3 = 8 then ((fX9_fails g a0 ((-6)) M).bind fun M_6 => fX9_readsProcess_19 g a0 x_3 M_6) else (fX9_readsProcess_19 g a0 x_3 M) else none
set_option maxHeartbeats 4000000 in
set_option maxRecDepth 100000 in
theorem mX9_readsProcess {w : gW} {n : Nat} {Rm : Nat → Nat → Nat} {g : Nat → Nat} (hLC : gLC g n Rm) {l : Launch} (hl9 : l.stackTraces = false) {a0 : Nat} {M : gMem} {r : gMem} (hg0 : g a0 = 9) (hf : fX9_readsProcess g a0 M = some r) : gMT w n Rm l yX9_readsProcess cX9_readsProcess 3 none 10 293 0 0 [.ref (w.1 + a0)] M (.inr none) r True := by
  unfold fX9_readsProcess at hf
  refine gMT.of hl9 (by decide +kernel) ((Nat.le_of_ble_eq_true rfl)) ?_
  intro p e s m below meth c hM hH ls hl
  have hM : gMC w p l s m ([.ref (w.1 + a0)] : List Value).toArray meth c cX9_readsProcess 3 RX9 none := hM
  have hl : lv_has ls 3 [(0, .ref (w.1 + a0))] := hl
  refine lv_aload_n hM.fx.1 hM.fx.2.1 dX9_readsProcess_0 rfl (lv_at hl 0 rfl) ?_
  refine r_getR hM.fx hM.kf hH hLC fl_X9_7 hg0 gch_9_0 dX9_readsProcess_1 ?_
  refine lv_iconst (v := gi (1)) hM.fx.1 hM.fx.2.1 dX9_readsProcess_4 rfl ?_
  obtain ⟨g_1, hf⟩ := gif hf
  refine r_iald hM.fx hM.kf hH (hLC.in (hLC.ch hg0 (by decide) gch_9_0) (by decide)) (⟨by decide, by decide⟩ : gAr 19056 0) (gcR (k := 1) (by decide)) g_1 dX9_readsProcess_5 ?_
  have hr_2 := hH.2.2.i (k := (1 : Int).toNat) (hLC.in (hLC.ch hg0 (by decide) gch_9_0) (by decide)).2.2 (glg_a (⟨by decide, by decide⟩ : gAr 19056 0))
  obtain ⟨x_3, ex_3, hf⟩ := gst_s hf
  refine W.eq (g2 := F0 m _ ls (.int (gi x_3) :: _)) (by rw [ex_3]) ?_
  have hx_3 : gRI x_3 := by rw [ex_3]; exact hr_2
  refine lv_istore_n (lv' := [(1, .int (gi x_3)), (0, .ref (w.1 + a0))]) hM.fx.1 hM.fx.2.1 dX9_readsProcess_6 rfl hl (by decide) rfl (fun ls hl => ?_)
  refine lv_iload_n hM.fx.1 hM.fx.2.1 dX9_readsProcess_7 rfl (lv_at hl 0 rfl) ?_
  refine lv_bipush (v := gi (8)) hM.fx.1 hM.fx.2.1 dX9_readsProcess_8 (by decide) ?_
  refine r_icmp_ne (tgt := 19) hM.fx hx_3 (gcR (k := 8) (by decide)) dX9_readsProcess_10 (by decide) (fun h_4 => ?_) (fun h_4 => ?_)
  · have hf := gneg' h_4 hf
    exact wX9_readsProcess_19 hLC hM   _ _ _ _ hg0 hx_3 hf _ _ _ hH (lv_sub hl [1, 0] rfl)
  · have hf := gpos h_4 hf
    refine lv_aload_n hM.fx.1 hM.fx.2.1 dX9_readsProcess_13 rfl (lv_at hl 1 rfl) ?_
    refine lv_bipush (v := gi (-6)) hM.fx.1 hM.fx.2.1 dX9_readsProcess_14 (by decide) ?_
    obtain ⟨M_6, eM_6, hf⟩ := gbd hf
    refine r_go0 hH rfl (r_runV (As := [.int (gi ((-6)))]) hM hH cv_X9_117 (mX9_fails hLC hM.ns hg0 (gcR (k := -6) (by decide)) eM_6) (hLC.in hg0 (by decide)) (by decide) rfl rfl rfl hl.1 rfl (Nat.le_of_ble_eq_true rfl) ⟨(Nat.le_of_ble_eq_true rfl), (Nat.le_of_ble_eq_true rfl)⟩ ⟨(Nat.le_of_ble_eq_true rfl), (Nat.le_of_ble_eq_true rfl)⟩ dX9_readsProcess_16) (fun hp_5 H locs hH => ?_)
    exact wX9_readsProcess_19 hLC hM   _ _ _ _ hg0 hx_3 hf _ _ _ hH (lv_sub hl [1, 0] rfl)
def fX9_ofStack (g : Nat → Nat) (a0 : Nat) (x1 : Int) (x2 : Int) (M : gMem) : Option Int :=
  if (0 : Int) ≤ gwi (gwi (694 + gwi (21 * x1)) + x2) ∧ (gwi (gwi (694 + gwi (21 * x1)) + x2) : Int) < 1190 then some (M (a0 + 1) (gwi (gwi (694 + gwi (21 * x1)) + x2)).toNat) else none
set_option maxHeartbeats 4000000 in
set_option maxRecDepth 100000 in
theorem mX9_ofStack {w : gW} {n : Nat} {Rm : Nat → Nat → Nat} {g : Nat → Nat} (hLC : gLC g n Rm) {l : Launch} (hl9 : l.stackTraces = false) {a0 : Nat} {x1 : Int} {x2 : Int} {M : gMem} {r : Int} (hg0 : g a0 = 9) (hr1 : gRI x1) (hr2 : gRI x2) (hf : fX9_ofStack g a0 x1 x2 M = some r) : gMT w n Rm l yX9_ofStack cX9_ofStack 3 (some .int) 1 60 0 0 [.ref (w.1 + a0), .int (gi x1), .int (gi x2)] M (.inr (some (.int (gi r)))) M (gRI r) := by
  unfold fX9_ofStack at hf
  refine gMT.of hl9 (by decide +kernel) ((Nat.le_of_ble_eq_true rfl)) ?_
  intro p e s m below meth c hM hH ls hl
  have hM : gMC w p l s m ([.ref (w.1 + a0), .int (gi x1), .int (gi x2)] : List Value).toArray meth c cX9_ofStack 3 RX9 (some .int) := hM
  have hl : lv_has ls 3 [(0, .ref (w.1 + a0)), (1, .int (gi x1)), (2, .int (gi x2))] := hl
  refine lv_aload_n hM.fx.1 hM.fx.2.1 dX9_ofStack_0 rfl (lv_at hl 0 rfl) ?_
  refine r_getR hM.fx hM.kf hH hLC fl_X9_7 hg0 gch_9_0 dX9_ofStack_1 ?_
  refine lv_sipush (v := gi (694)) hM.fx.1 hM.fx.2.1 dX9_ofStack_4 (by decide) ?_
  refine lv_bipush (v := gi (21)) hM.fx.1 hM.fx.2.1 dX9_ofStack_7 (by decide) ?_
  refine lv_iload_n hM.fx.1 hM.fx.2.1 dX9_ofStack_9 rfl (lv_at hl 1 rfl) ?_
  refine r_imul hM.fx dX9_ofStack_10 ?_
  refine r_iadd hM.fx dX9_ofStack_11 ?_
  refine lv_iload_n hM.fx.1 hM.fx.2.1 dX9_ofStack_12 rfl (lv_at hl 2 rfl) ?_
  refine r_iadd hM.fx dX9_ofStack_13 ?_
  obtain ⟨g_1, hf⟩ := gif hf
  refine r_iald hM.fx hM.kf hH (hLC.in (hLC.ch hg0 (by decide) gch_9_0) (by decide)) (⟨by decide, by decide⟩ : gAr 19056 0) (gwi_r _) g_1 dX9_ofStack_14 ?_
  have hr_2 := hH.2.2.i (k := (gwi (gwi (694 + gwi (21 * x1)) + x2)).toNat) (hLC.in (hLC.ch hg0 (by decide) gch_9_0) (by decide)).2.2 (glg_a (⟨by decide, by decide⟩ : gAr 19056 0))
  obtain rfl := Option.some.inj hf
  exact r_iret hM hH hr_2 ⟨(Nat.le_of_ble_eq_true rfl), (Nat.le_of_ble_eq_true rfl)⟩ dX9_ofStack_15
def fX9_inHand_2 (g : Nat → Nat)  : Nat → Nat → Int → Int → gMem → Option Int
  | 0, _, _, _, _ => none
  | fu + 1, a0, x1, x2, M => if (0 : Int) ≤ 2 ∧ (2 : Int) < 1190 then if M (a0 + 1) (2 : Int).toNat ≤ x2 then (some (-1)) else ((fX9_ofStack g a0 x2 2 M).bind fun x_5 => if x_5 = x1 then (some x2) else (gst (gwi (x2 + 1)) fun x_7 => fX9_inHand_2 g fu a0 x1 x_7 M)) else none
set_option maxHeartbeats 4000000 in
set_option maxRecDepth 100000 in
theorem wX9_inHand_2 {w : gW} {n : Nat} {Rm : Nat → Nat → Nat} {g : Nat → Nat} (hLC : gLC g n Rm) {p : Program} {l : Launch} {e : Env} {s : State} {m : MethodId} {args : Array Value} {below : List Frame} {meth : Method} {c : Code} (hM : gMC w p l s m args meth c cX9_inHand 3 RX9 (some .int))  : ∀ (fu : Nat), ∀ (a0 : Nat) (x1 : Int) (x2 : Int) (M : gMem) (r : Int) (hg0 : g a0 = 9) (hr1 : gRI x1) (hr2 : gRI x2) (hf : fX9_inHand_2 g fu a0 x1 x2 M = some r) (H : Heap) (locs : List Loc) (ls : Array Slot) (hH : gH w n Rm M s H locs) (hl : lv_has ls 3 [(0, .ref (w.1 + a0)), (1, .int (gi x1)), (2, .int (gi x2))]), W p l e { frames := 2, cells := 0, slots := 0, locals := 82 } s m args below meth c H locs 0 0 (gQ w n Rm below args s 0 0 (.inr (some (.int (gi r)))) M (gRI r)) (F0 m 2 ls []) := by
  intro fu
  induction fu with
  | zero =>
    intro a0 x1 x2 M r hg0 hr1 hr2 hf H locs ls hH hl
    exact absurd hf (by simp [fX9_inHand_2])
  | succ fu ih =>
    intro a0 x1 x2 M r hg0 hr1 hr2 hf H locs ls hH hl
    unfold fX9_inHand_2 at hf
    refine lv_iload_n hM.fx.1 hM.fx.2.1 dX9_inHand_2 rfl (lv_at hl 2 rfl) ?_
    refine lv_aload_n hM.fx.1 hM.fx.2.1 dX9_inHand_3 rfl (lv_at hl 0 rfl) ?_
    refine r_getR hM.fx hM.kf hH hLC fl_X9_7 hg0 gch_9_0 dX9_inHand_4 ?_
    refine lv_iconst (v := gi (2)) hM.fx.1 hM.fx.2.1 dX9_inHand_7 rfl ?_
    obtain ⟨g_1, hf⟩ := gif hf
    refine r_iald hM.fx hM.kf hH (hLC.in (hLC.ch hg0 (by decide) gch_9_0) (by decide)) (⟨by decide, by decide⟩ : gAr 19056 0) (gcR (k := 2) (by decide)) g_1 dX9_inHand_8 ?_
    have hr_2 := hH.2.2.i (k := (2 : Int).toNat) (hLC.in (hLC.ch hg0 (by decide) gch_9_0) (by decide)).2.2 (glg_a (⟨by decide, by decide⟩ : gAr 19056 0))
    refine r_icmp_ge (tgt := 30) hM.fx hr2 hr_2 dX9_inHand_9 (by decide) (fun h_3 => ?_) (fun h_3 => ?_)
    · have hf := gpos h_3 hf
      refine lv_iconst (v := gi (-1)) hM.fx.1 hM.fx.2.1 dX9_inHand_30 rfl ?_
      obtain rfl := Option.some.inj hf
      exact r_iret hM hH (gcR (k := -1) (by decide)) ⟨(Nat.le_of_ble_eq_true rfl), (Nat.le_of_ble_eq_true rfl)⟩ dX9_inHand_31
    · have hf := gneg' h_3 hf
      refine lv_aload_n hM.fx.1 hM.fx.2.1 dX9_inHand_12 rfl (lv_at hl 0 rfl) ?_
      refine lv_iload_n hM.fx.1 hM.fx.2.1 dX9_inHand_13 rfl (lv_at hl 2 rfl) ?_
      refine lv_iconst (v := gi (2)) hM.fx.1 hM.fx.2.1 dX9_inHand_14 rfl ?_
      obtain ⟨x_5, ex_5, hf⟩ := gbd hf
      refine r_go1 hH rfl (r_runV (As := [.int (gi x2), .int (gi 2)]) hM hH cv_X9_232 (mX9_ofStack hLC hM.ns hg0 hr2 (gcR (k := 2) (by decide)) ex_5) (hLC.in hg0 (by decide)) (by decide) rfl rfl rfl hl.1 rfl (Nat.le_of_ble_eq_true rfl) ⟨(Nat.le_of_ble_eq_true rfl), (Nat.le_of_ble_eq_true rfl)⟩ ⟨(Nat.le_of_ble_eq_true rfl), (Nat.le_of_ble_eq_true rfl)⟩ dX9_inHand_15) (fun hp_4 H locs hH => ?_)
      refine lv_iload_n hM.fx.1 hM.fx.2.1 dX9_inHand_18 rfl (lv_at hl 1 rfl) ?_
      refine r_icmp_ne (tgt := 24) hM.fx hp_4 hr1 dX9_inHand_19 (by decide) (fun h_6 => ?_) (fun h_6 => ?_)
      · have hf := gneg' h_6 hf
        obtain ⟨x_7, ex_7, hf⟩ := gst_s hf
        have hx_7 : gRI x_7 := by rw [ex_7]; exact gwi_r _
        refine r_iinc (lv' := [(2, .int (gi x_7)), (0, .ref (w.1 + a0)), (1, .int (gi x1))]) hM.fx dX9_inHand_24 hl (k := 2) rfl (by decide) (by rw [ex_7]; rfl) (fun ls hl => ?_)
        refine lv_goto (tgt := 2) hM.fx.1 hM.fx.2.1 dX9_inHand_27 (by decide) ?_
        exact ih _ _ _ _ _ hg0 hr1 hx_7 hf _ _ _ hH (lv_sub hl [1, 2, 0] rfl)
      · have hf := gpos h_6 hf
        refine lv_iload_n hM.fx.1 hM.fx.2.1 dX9_inHand_22 rfl (lv_at hl 2 rfl) ?_
        obtain rfl := Option.some.inj hf
        exact r_iret hM hH hr2 ⟨(Nat.le_of_ble_eq_true rfl), (Nat.le_of_ble_eq_true rfl)⟩ dX9_inHand_23
def fX9_inHand (g : Nat → Nat) (a0 : Nat) (x1 : Int) (M : gMem) : Option Int :=
  fX9_inHand_2 g gF a0 x1 0 M
set_option maxHeartbeats 4000000 in
set_option maxRecDepth 100000 in
theorem mX9_inHand {w : gW} {n : Nat} {Rm : Nat → Nat → Nat} {g : Nat → Nat} (hLC : gLC g n Rm) {l : Launch} (hl9 : l.stackTraces = false) {a0 : Nat} {x1 : Int} {M : gMem} {r : Int} (hg0 : g a0 = 9) (hr1 : gRI x1) (hf : fX9_inHand g a0 x1 M = some r) : gMT w n Rm l yX9_inHand cX9_inHand 3 (some .int) 2 82 0 0 [.ref (w.1 + a0), .int (gi x1)] M (.inr (some (.int (gi r)))) M (gRI r) := by
  unfold fX9_inHand at hf
  refine gMT.of hl9 (by decide +kernel) ((Nat.le_of_ble_eq_true rfl)) ?_
  intro p e s m below meth c hM hH ls hl
  have hM : gMC w p l s m ([.ref (w.1 + a0), .int (gi x1)] : List Value).toArray meth c cX9_inHand 3 RX9 (some .int) := hM
  have hl : lv_has ls 3 [(0, .ref (w.1 + a0)), (1, .int (gi x1))] := hl
  refine lv_iconst (v := gi (0)) hM.fx.1 hM.fx.2.1 dX9_inHand_0 rfl ?_
  refine lv_istore_n (lv' := [(2, .int (gi 0)), (0, .ref (w.1 + a0)), (1, .int (gi x1))]) hM.fx.1 hM.fx.2.1 dX9_inHand_1 rfl hl (by decide) rfl (fun ls hl => ?_)
  exact wX9_inHand_2 hLC hM  gF _ _ _ _ _ hg0 hr1 (gcR (k := 0) (by decide)) hf _ _ _ hH (lv_sub hl [1, 2, 0] rfl)
def fX9_onSlot_2 (g : Nat → Nat)  : Nat → Nat → Int → Int → gMem → Option Int
  | 0, _, _, _, _ => none
  | fu + 1, a0, x1, x2, M => if (0 : Int) ≤ 2 ∧ (2 : Int) < 1190 then if M (a0 + 1) (2 : Int).toNat ≤ x2 then (some (-1)) else ((fX9_ofStack g a0 x2 3 M).bind fun x_5 => if x_5 = x1 then (some x2) else (gst (gwi (x2 + 1)) fun x_7 => fX9_onSlot_2 g fu a0 x1 x_7 M)) else none
set_option maxHeartbeats 4000000 in
set_option maxRecDepth 100000 in
theorem wX9_onSlot_2 {w : gW} {n : Nat} {Rm : Nat → Nat → Nat} {g : Nat → Nat} (hLC : gLC g n Rm) {p : Program} {l : Launch} {e : Env} {s : State} {m : MethodId} {args : Array Value} {below : List Frame} {meth : Method} {c : Code} (hM : gMC w p l s m args meth c cX9_onSlot 3 RX9 (some .int))  : ∀ (fu : Nat), ∀ (a0 : Nat) (x1 : Int) (x2 : Int) (M : gMem) (r : Int) (hg0 : g a0 = 9) (hr1 : gRI x1) (hr2 : gRI x2) (hf : fX9_onSlot_2 g fu a0 x1 x2 M = some r) (H : Heap) (locs : List Loc) (ls : Array Slot) (hH : gH w n Rm M s H locs) (hl : lv_has ls 3 [(0, .ref (w.1 + a0)), (1, .int (gi x1)), (2, .int (gi x2))]), W p l e { frames := 2, cells := 0, slots := 0, locals := 82 } s m args below meth c H locs 0 0 (gQ w n Rm below args s 0 0 (.inr (some (.int (gi r)))) M (gRI r)) (F0 m 2 ls []) := by
  intro fu
  induction fu with
  | zero =>
    intro a0 x1 x2 M r hg0 hr1 hr2 hf H locs ls hH hl
    exact absurd hf (by simp [fX9_onSlot_2])
  | succ fu ih =>
    intro a0 x1 x2 M r hg0 hr1 hr2 hf H locs ls hH hl
    unfold fX9_onSlot_2 at hf
    refine lv_iload_n hM.fx.1 hM.fx.2.1 dX9_onSlot_2 rfl (lv_at hl 2 rfl) ?_
    refine lv_aload_n hM.fx.1 hM.fx.2.1 dX9_onSlot_3 rfl (lv_at hl 0 rfl) ?_
    refine r_getR hM.fx hM.kf hH hLC fl_X9_7 hg0 gch_9_0 dX9_onSlot_4 ?_
    refine lv_iconst (v := gi (2)) hM.fx.1 hM.fx.2.1 dX9_onSlot_7 rfl ?_
    obtain ⟨g_1, hf⟩ := gif hf
    refine r_iald hM.fx hM.kf hH (hLC.in (hLC.ch hg0 (by decide) gch_9_0) (by decide)) (⟨by decide, by decide⟩ : gAr 19056 0) (gcR (k := 2) (by decide)) g_1 dX9_onSlot_8 ?_
    have hr_2 := hH.2.2.i (k := (2 : Int).toNat) (hLC.in (hLC.ch hg0 (by decide) gch_9_0) (by decide)).2.2 (glg_a (⟨by decide, by decide⟩ : gAr 19056 0))
    refine r_icmp_ge (tgt := 30) hM.fx hr2 hr_2 dX9_onSlot_9 (by decide) (fun h_3 => ?_) (fun h_3 => ?_)
    · have hf := gpos h_3 hf
      refine lv_iconst (v := gi (-1)) hM.fx.1 hM.fx.2.1 dX9_onSlot_30 rfl ?_
      obtain rfl := Option.some.inj hf
      exact r_iret hM hH (gcR (k := -1) (by decide)) ⟨(Nat.le_of_ble_eq_true rfl), (Nat.le_of_ble_eq_true rfl)⟩ dX9_onSlot_31
    · have hf := gneg' h_3 hf
      refine lv_aload_n hM.fx.1 hM.fx.2.1 dX9_onSlot_12 rfl (lv_at hl 0 rfl) ?_
      refine lv_iload_n hM.fx.1 hM.fx.2.1 dX9_onSlot_13 rfl (lv_at hl 2 rfl) ?_
      refine lv_iconst (v := gi (3)) hM.fx.1 hM.fx.2.1 dX9_onSlot_14 rfl ?_
      obtain ⟨x_5, ex_5, hf⟩ := gbd hf
      refine r_go1 hH rfl (r_runV (As := [.int (gi x2), .int (gi 3)]) hM hH cv_X9_232 (mX9_ofStack hLC hM.ns hg0 hr2 (gcR (k := 3) (by decide)) ex_5) (hLC.in hg0 (by decide)) (by decide) rfl rfl rfl hl.1 rfl (Nat.le_of_ble_eq_true rfl) ⟨(Nat.le_of_ble_eq_true rfl), (Nat.le_of_ble_eq_true rfl)⟩ ⟨(Nat.le_of_ble_eq_true rfl), (Nat.le_of_ble_eq_true rfl)⟩ dX9_onSlot_15) (fun hp_4 H locs hH => ?_)
      refine lv_iload_n hM.fx.1 hM.fx.2.1 dX9_onSlot_18 rfl (lv_at hl 1 rfl) ?_
      refine r_icmp_ne (tgt := 24) hM.fx hp_4 hr1 dX9_onSlot_19 (by decide) (fun h_6 => ?_) (fun h_6 => ?_)
      · have hf := gneg' h_6 hf
        obtain ⟨x_7, ex_7, hf⟩ := gst_s hf
        have hx_7 : gRI x_7 := by rw [ex_7]; exact gwi_r _
        refine r_iinc (lv' := [(2, .int (gi x_7)), (0, .ref (w.1 + a0)), (1, .int (gi x1))]) hM.fx dX9_onSlot_24 hl (k := 2) rfl (by decide) (by rw [ex_7]; rfl) (fun ls hl => ?_)
        refine lv_goto (tgt := 2) hM.fx.1 hM.fx.2.1 dX9_onSlot_27 (by decide) ?_
        exact ih _ _ _ _ _ hg0 hr1 hx_7 hf _ _ _ hH (lv_sub hl [1, 2, 0] rfl)
      · have hf := gpos h_6 hf
        refine lv_iload_n hM.fx.1 hM.fx.2.1 dX9_onSlot_22 rfl (lv_at hl 2 rfl) ?_
        obtain rfl := Option.some.inj hf
        exact r_iret hM hH hr2 ⟨(Nat.le_of_ble_eq_true rfl), (Nat.le_of_ble_eq_true rfl)⟩ dX9_onSlot_23
def fX9_onSlot (g : Nat → Nat) (a0 : Nat) (x1 : Int) (M : gMem) : Option Int :=
  fX9_onSlot_2 g gF a0 x1 0 M
set_option maxHeartbeats 4000000 in
set_option maxRecDepth 100000 in
theorem mX9_onSlot {w : gW} {n : Nat} {Rm : Nat → Nat → Nat} {g : Nat → Nat} (hLC : gLC g n Rm) {l : Launch} (hl9 : l.stackTraces = false) {a0 : Nat} {x1 : Int} {M : gMem} {r : Int} (hg0 : g a0 = 9) (hr1 : gRI x1) (hf : fX9_onSlot g a0 x1 M = some r) : gMT w n Rm l yX9_onSlot cX9_onSlot 3 (some .int) 2 82 0 0 [.ref (w.1 + a0), .int (gi x1)] M (.inr (some (.int (gi r)))) M (gRI r) := by
  unfold fX9_onSlot at hf
  refine gMT.of hl9 (by decide +kernel) ((Nat.le_of_ble_eq_true rfl)) ?_
  intro p e s m below meth c hM hH ls hl
  have hM : gMC w p l s m ([.ref (w.1 + a0), .int (gi x1)] : List Value).toArray meth c cX9_onSlot 3 RX9 (some .int) := hM
  have hl : lv_has ls 3 [(0, .ref (w.1 + a0)), (1, .int (gi x1))] := hl
  refine lv_iconst (v := gi (0)) hM.fx.1 hM.fx.2.1 dX9_onSlot_0 rfl ?_
  refine lv_istore_n (lv' := [(2, .int (gi 0)), (0, .ref (w.1 + a0)), (1, .int (gi x1))]) hM.fx.1 hM.fx.2.1 dX9_onSlot_1 rfl hl (by decide) rfl (fun ls hl => ?_)
  exact wX9_onSlot_2 hLC hM  gF _ _ _ _ _ hg0 hr1 (gcR (k := 0) (by decide)) hf _ _ _ hH (lv_sub hl [1, 2, 0] rfl)
def fX9_puts (g : Nat → Nat) (a0 : Nat) (x1 : Int) (x2 : Int) (x3 : Int) (M : gMem) : Option gMem :=
  if (0 : Int) ≤ gwi (gwi (694 + gwi (21 * x1)) + x2) ∧ (gwi (gwi (694 + gwi (21 * x1)) + x2) : Int) < 1190 then gst (gup M (a0 + 1) (gwi (gwi (694 + gwi (21 * x1)) + x2)).toNat x3) fun M_2 => some M_2 else none
set_option maxHeartbeats 4000000 in
set_option maxRecDepth 100000 in
theorem mX9_puts {w : gW} {n : Nat} {Rm : Nat → Nat → Nat} {g : Nat → Nat} (hLC : gLC g n Rm) {l : Launch} (hl9 : l.stackTraces = false) {a0 : Nat} {x1 : Int} {x2 : Int} {x3 : Int} {M : gMem} {r : gMem} (hg0 : g a0 = 9) (hr1 : gRI x1) (hr2 : gRI x2) (hr3 : gRI x3) (hf : fX9_puts g a0 x1 x2 x3 M = some r) : gMT w n Rm l yX9_puts cX9_puts 4 none 1 60 0 0 [.ref (w.1 + a0), .int (gi x1), .int (gi x2), .int (gi x3)] M (.inr none) r True := by
  unfold fX9_puts at hf
  refine gMT.of hl9 (by decide +kernel) ((Nat.le_of_ble_eq_true rfl)) ?_
  intro p e s m below meth c hM hH ls hl
  have hM : gMC w p l s m ([.ref (w.1 + a0), .int (gi x1), .int (gi x2), .int (gi x3)] : List Value).toArray meth c cX9_puts 4 RX9 none := hM
  have hl : lv_has ls 4 [(0, .ref (w.1 + a0)), (1, .int (gi x1)), (2, .int (gi x2)), (3, .int (gi x3))] := hl
  refine lv_aload_n hM.fx.1 hM.fx.2.1 dX9_puts_0 rfl (lv_at hl 0 rfl) ?_
  refine r_getR hM.fx hM.kf hH hLC fl_X9_7 hg0 gch_9_0 dX9_puts_1 ?_
  refine lv_sipush (v := gi (694)) hM.fx.1 hM.fx.2.1 dX9_puts_4 (by decide) ?_
  refine lv_bipush (v := gi (21)) hM.fx.1 hM.fx.2.1 dX9_puts_7 (by decide) ?_
  refine lv_iload_n hM.fx.1 hM.fx.2.1 dX9_puts_9 rfl (lv_at hl 1 rfl) ?_
  refine r_imul hM.fx dX9_puts_10 ?_
  refine r_iadd hM.fx dX9_puts_11 ?_
  refine lv_iload_n hM.fx.1 hM.fx.2.1 dX9_puts_12 rfl (lv_at hl 2 rfl) ?_
  refine r_iadd hM.fx dX9_puts_13 ?_
  refine lv_iload_n hM.fx.1 hM.fx.2.1 dX9_puts_14 rfl (lv_at hl 3 rfl) ?_
  obtain ⟨g_1, hf⟩ := gif hf
  refine r_iast hM.fx hM.kf hH (hLC.in (hLC.ch hg0 (by decide) gch_9_0) (by decide)) (⟨by decide, by decide⟩ : gAr 19056 0) (gwi_r _) g_1 hr3 dX9_puts_15 (fun H locs hH => ?_)
  obtain ⟨M_2, eM_2, hf⟩ := gst_s hf
  rw [← eM_2] at hH
  obtain rfl := Option.some.inj hf
  exact r_vret hM hH trivial ⟨(Nat.le_of_ble_eq_true rfl), (Nat.le_of_ble_eq_true rfl)⟩ dX9_puts_16
def fX9_readsStack_248 (g : Nat → Nat)  (a0 : Nat) (x1 : Int) (x5 : Int) (M : gMem) : Option gMem :=
  (fX9_puts g a0 x1 1 x5 M).bind fun M_2 => (fX9_isSign g a0 59 M_2).bind fun x_4 => (fX9_must g a0 x_4 M_2).bind fun M_6 => if (0 : Int) ≤ 2 ∧ (2 : Int) < 1190 then if (0 : Int) ≤ 2 ∧ (2 : Int) < 1190 then gst (gup M_6 (a0 + 1) (2 : Int).toNat (gwi (M_6 (a0 + 1) (2 : Int).toNat + 1))) fun M_10 => some M_10 else none else none
set_option maxHeartbeats 4000000 in
set_option maxRecDepth 100000 in
theorem wX9_readsStack_248 {w : gW} {n : Nat} {Rm : Nat → Nat → Nat} {g : Nat → Nat} (hLC : gLC g n Rm) {p : Program} {l : Launch} {e : Env} {s : State} {m : MethodId} {args : Array Value} {below : List Frame} {meth : Method} {c : Code} (hM : gMC w p l s m args meth c cX9_readsStack 7 RX9 none)  : ∀ (a0 : Nat) (x1 : Int) (x5 : Int) (M : gMem) (r : gMem) (hg0 : g a0 = 9) (hr1 : gRI x1) (hr5 : gRI x5) (hf : fX9_readsStack_248 g a0 x1 x5 M = some r) (H : Heap) (locs : List Loc) (ls : Array Slot) (hH : gH w n Rm M s H locs) (hl : lv_has ls 7 [(0, .ref (w.1 + a0)), (1, .int (gi x1)), (5, .int (gi x5))]), W p l e { frames := 9, cells := 0, slots := 0, locals := 272 } s m args below meth c H locs 0 0 (gQ w n Rm below args s 0 0 (.inr none) r True) (F0 m 248 ls []) := by
  intro a0 x1 x5 M r hg0 hr1 hr5 hf H locs ls hH hl
  unfold fX9_readsStack_248 at hf
  refine lv_aload_n hM.fx.1 hM.fx.2.1 dX9_readsStack_248 rfl (lv_at hl 0 rfl) ?_
  refine lv_iload_n hM.fx.1 hM.fx.2.1 dX9_readsStack_249 rfl (lv_at hl 1 rfl) ?_
  refine lv_iconst (v := gi (1)) hM.fx.1 hM.fx.2.1 dX9_readsStack_250 rfl ?_
  refine lv_iload hM.fx.1 hM.fx.2.1 dX9_readsStack_251 (lv_at hl 2 rfl) ?_
  obtain ⟨M_2, eM_2, hf⟩ := gbd hf
  refine r_go0 hH rfl (r_runV (As := [.int (gi x1), .int (gi 1), .int (gi x5)]) hM hH cv_X9_219 (mX9_puts hLC hM.ns hg0 hr1 (gcR (k := 1) (by decide)) hr5 eM_2) (hLC.in hg0 (by decide)) (by decide) rfl rfl rfl hl.1 rfl (Nat.le_of_ble_eq_true rfl) ⟨(Nat.le_of_ble_eq_true rfl), (Nat.le_of_ble_eq_true rfl)⟩ ⟨(Nat.le_of_ble_eq_true rfl), (Nat.le_of_ble_eq_true rfl)⟩ dX9_readsStack_253) (fun hp_1 H locs hH => ?_)
  refine lv_aload_n hM.fx.1 hM.fx.2.1 dX9_readsStack_256 rfl (lv_at hl 0 rfl) ?_
  refine lv_aload_n hM.fx.1 hM.fx.2.1 dX9_readsStack_257 rfl (lv_at hl 0 rfl) ?_
  refine lv_bipush (v := gi (59)) hM.fx.1 hM.fx.2.1 dX9_readsStack_258 (by decide) ?_
  obtain ⟨x_4, ex_4, hf⟩ := gbd hf
  refine r_go1 hH rfl (r_runV (As := [.int (gi 59)]) hM hH cv_X9_127 (mX9_isSign hLC hM.ns hg0 (gcR (k := 59) (by decide)) ex_4) (hLC.in hg0 (by decide)) (by decide) rfl rfl rfl hl.1 rfl (Nat.le_of_ble_eq_true rfl) ⟨(Nat.le_of_ble_eq_true rfl), (Nat.le_of_ble_eq_true rfl)⟩ ⟨(Nat.le_of_ble_eq_true rfl), (Nat.le_of_ble_eq_true rfl)⟩ dX9_readsStack_260) (fun hp_3 H locs hH => ?_)
  obtain ⟨M_6, eM_6, hf⟩ := gbd hf
  refine r_go0 hH rfl (r_runV (As := [.int (gi x_4)]) hM hH cv_X9_174 (mX9_must hLC hM.ns hg0 (gz_r hp_3) eM_6) (hLC.in hg0 (by decide)) (by decide) rfl rfl rfl hl.1 rfl (Nat.le_of_ble_eq_true rfl) ⟨(Nat.le_of_ble_eq_true rfl), (Nat.le_of_ble_eq_true rfl)⟩ ⟨(Nat.le_of_ble_eq_true rfl), (Nat.le_of_ble_eq_true rfl)⟩ dX9_readsStack_263) (fun hp_5 H locs hH => ?_)
  refine lv_aload_n hM.fx.1 hM.fx.2.1 dX9_readsStack_266 rfl (lv_at hl 0 rfl) ?_
  refine r_getR hM.fx hM.kf hH hLC fl_X9_7 hg0 gch_9_0 dX9_readsStack_267 ?_
  refine lv_iconst (v := gi (2)) hM.fx.1 hM.fx.2.1 dX9_readsStack_270 rfl ?_
  refine lv_dup2_11 hM.fx.1 hM.fx.2.1 dX9_readsStack_271 rfl rfl ?_
  obtain ⟨g_7, hf⟩ := gif hf
  refine r_iald hM.fx hM.kf hH (hLC.in (hLC.ch hg0 (by decide) gch_9_0) (by decide)) (⟨by decide, by decide⟩ : gAr 19056 0) (gcR (k := 2) (by decide)) g_7 dX9_readsStack_272 ?_
  have hr_8 := hH.2.2.i (k := (2 : Int).toNat) (hLC.in (hLC.ch hg0 (by decide) gch_9_0) (by decide)).2.2 (glg_a (⟨by decide, by decide⟩ : gAr 19056 0))
  refine lv_iconst (v := gi (1)) hM.fx.1 hM.fx.2.1 dX9_readsStack_273 rfl ?_
  refine r_iadd hM.fx dX9_readsStack_274 ?_
  obtain ⟨g_9, hf⟩ := gif hf
  refine r_iast hM.fx hM.kf hH (hLC.in (hLC.ch hg0 (by decide) gch_9_0) (by decide)) (⟨by decide, by decide⟩ : gAr 19056 0) (gcR (k := 2) (by decide)) g_9 (gwi_r _) dX9_readsStack_275 (fun H locs hH => ?_)
  obtain ⟨M_10, eM_10, hf⟩ := gst_s hf
  rw [← eM_10] at hH
  obtain rfl := Option.some.inj hf
  exact r_vret hM hH trivial ⟨(Nat.le_of_ble_eq_true rfl), (Nat.le_of_ble_eq_true rfl)⟩ dX9_readsStack_276
def fX9_readsStack_217 (g : Nat → Nat) (k181 : Nat → Int → Int → Int → gMem → Option gMem) (a0 : Nat) (x1 : Int) (x2 : Int) (x5 : Int) (M : gMem) : Option gMem :=
  (fX9_takesValue g a0 M).bind fun q_2 => gst q_2.1 fun x_3 => if q_2.2 a0 14 = 0 then ((fX9_puts g a0 x1 (gwi (5 + x5)) x_3 q_2.2).bind fun M_7 => gst (gwi (x5 + 1)) fun x_8 => k181 a0 x1 x2 x_8 M_7) else (some (q_2.2))
set_option maxHeartbeats 4000000 in
set_option maxRecDepth 100000 in
theorem wX9_readsStack_217 {w : gW} {n : Nat} {Rm : Nat → Nat → Nat} {g : Nat → Nat} (hLC : gLC g n Rm) {p : Program} {l : Launch} {e : Env} {s : State} {m : MethodId} {args : Array Value} {below : List Frame} {meth : Method} {c : Code} (hM : gMC w p l s m args meth c cX9_readsStack 7 RX9 none) (k181 : Nat → Int → Int → Int → gMem → Option gMem) (hk181 : ∀ (a0 : Nat) (x1 : Int) (x2 : Int) (x5 : Int) (M : gMem) (r : gMem) (hg0 : g a0 = 9) (hr1 : gRI x1) (hr2 : gRI x2) (hr5 : gRI x5) (hf : k181 a0 x1 x2 x5 M = some r) (H : Heap) (locs : List Loc) (ls : Array Slot) (hH : gH w n Rm M s H locs) (hl : lv_has ls 7 [(0, .ref (w.1 + a0)), (1, .int (gi x1)), (2, .int (gi x2)), (5, .int (gi x5))]), W p l e { frames := 9, cells := 0, slots := 0, locals := 272 } s m args below meth c H locs 0 0 (gQ w n Rm below args s 0 0 (.inr none) r True) (F0 m 181 ls [])) : ∀ (a0 : Nat) (x1 : Int) (x2 : Int) (x5 : Int) (M : gMem) (r : gMem) (hg0 : g a0 = 9) (hr1 : gRI x1) (hr2 : gRI x2) (hr5 : gRI x5) (hf : fX9_readsStack_217 g k181 a0 x1 x2 x5 M = some r) (H : Heap) (locs : List Loc) (ls : Array Slot) (hH : gH w n Rm M s H locs) (hl : lv_has ls 7 [(0, .ref (w.1 + a0)), (1, .int (gi x1)), (2, .int (gi x2)), (5, .int (gi x5))]), W p l e { frames := 9, cells := 0, slots := 0, locals := 272 } s m args below meth c H locs 0 0 (gQ w n Rm below args s 0 0 (.inr none) r True) (F0 m 217 ls []) := by
  intro a0 x1 x2 x5 M r hg0 hr1 hr2 hr5 hf H locs ls hH hl
  unfold fX9_readsStack_217 at hf
  refine lv_aload_n hM.fx.1 hM.fx.2.1 dX9_readsStack_217 rfl (lv_at hl 0 rfl) ?_
  obtain ⟨q_2, eq_2, hf⟩ := gbd hf
  refine r_go1 hH rfl (r_runV (As := []) hM hH cv_X9_178 (mX9_takesValue hLC hM.ns hg0 eq_2) (hLC.in hg0 (by decide)) (by decide) rfl rfl rfl hl.1 rfl (Nat.le_of_ble_eq_true rfl) ⟨(Nat.le_of_ble_eq_true rfl), (Nat.le_of_ble_eq_true rfl)⟩ ⟨(Nat.le_of_ble_eq_true rfl), (Nat.le_of_ble_eq_true rfl)⟩ dX9_readsStack_218) (fun hp_1 H locs hH => ?_)
  obtain ⟨x_3, ex_3, hf⟩ := gst_s hf
  refine W.eq (g2 := F0 m _ ls (.int (gi x_3) :: _)) (by rw [ex_3]) ?_
  have hx_3 : gRI x_3 := by rw [ex_3]; exact hp_1
  refine lv_istore (lv' := [(6, .int (gi x_3)), (0, .ref (w.1 + a0)), (1, .int (gi x1)), (2, .int (gi x2)), (5, .int (gi x5))]) hM.fx.1 hM.fx.2.1 dX9_readsStack_221 hl (by decide) rfl (fun ls hl => ?_)
  refine lv_aload_n hM.fx.1 hM.fx.2.1 dX9_readsStack_223 rfl (lv_at hl 1 rfl) ?_
  refine r_getI hM.fx hM.kf hH fl_X9_101 (hLC.in hg0 (by decide)) dX9_readsStack_224 ?_
  have hr_4 := hH.2.2.i (hLC.in hg0 (by decide)).2.2 (by decide : glg 9 14 = false)
  refine r_if_eq (tgt := 231) hM.fx hr_4 dX9_readsStack_227 (by decide) (fun h_5 => ?_) (fun h_5 => ?_)
  · have hf := gpos h_5 hf
    refine lv_aload_n hM.fx.1 hM.fx.2.1 dX9_readsStack_231 rfl (lv_at hl 1 rfl) ?_
    refine lv_iload_n hM.fx.1 hM.fx.2.1 dX9_readsStack_232 rfl (lv_at hl 2 rfl) ?_
    refine lv_iconst (v := gi (5)) hM.fx.1 hM.fx.2.1 dX9_readsStack_233 rfl ?_
    refine lv_iload hM.fx.1 hM.fx.2.1 dX9_readsStack_234 (lv_at hl 4 rfl) ?_
    refine r_iadd hM.fx dX9_readsStack_236 ?_
    refine lv_iload hM.fx.1 hM.fx.2.1 dX9_readsStack_237 (lv_at hl 0 rfl) ?_
    obtain ⟨M_7, eM_7, hf⟩ := gbd hf
    refine r_go0 hH rfl (r_runV (As := [.int (gi x1), .int (gi (gwi (5 + x5))), .int (gi x_3)]) hM hH cv_X9_219 (mX9_puts hLC hM.ns hg0 hr1 (gwi_r _) hx_3 eM_7) (hLC.in hg0 (by decide)) (by decide) rfl rfl rfl hl.1 rfl (Nat.le_of_ble_eq_true rfl) ⟨(Nat.le_of_ble_eq_true rfl), (Nat.le_of_ble_eq_true rfl)⟩ ⟨(Nat.le_of_ble_eq_true rfl), (Nat.le_of_ble_eq_true rfl)⟩ dX9_readsStack_239) (fun hp_6 H locs hH => ?_)
    obtain ⟨x_8, ex_8, hf⟩ := gst_s hf
    have hx_8 : gRI x_8 := by rw [ex_8]; exact gwi_r _
    refine r_iinc (lv' := [(5, .int (gi x_8)), (6, .int (gi x_3)), (0, .ref (w.1 + a0)), (1, .int (gi x1)), (2, .int (gi x2))]) hM.fx dX9_readsStack_242 hl (k := 4) rfl (by decide) (by rw [ex_8]; rfl) (fun ls hl => ?_)
    refine lv_goto (tgt := 181) hM.fx.1 hM.fx.2.1 dX9_readsStack_245 (by decide) ?_
    exact hk181 _ _ _ _ _ _ hg0 hr1 hr2 hx_8 hf _ _ _ hH (lv_sub hl [2, 3, 4, 0] rfl)
  · have hf := gneg' h_5 hf
    obtain rfl := Option.some.inj hf
    exact r_vret hM hH trivial ⟨(Nat.le_of_ble_eq_true rfl), (Nat.le_of_ble_eq_true rfl)⟩ dX9_readsStack_230
def fX9_readsStack_205 (g : Nat → Nat) (k181 : Nat → Int → Int → Int → gMem → Option gMem) (a0 : Nat) (x1 : Int) (x2 : Int) (x5 : Int) (M : gMem) : Option gMem :=
  if x5 = x2 then ((fX9_fails g a0 ((-6)) M).bind fun M_3 => fX9_readsStack_217 g k181 a0 x1 x2 x5 M_3) else (fX9_readsStack_217 g k181 a0 x1 x2 x5 M)
set_option maxHeartbeats 4000000 in
set_option maxRecDepth 100000 in
theorem wX9_readsStack_205 {w : gW} {n : Nat} {Rm : Nat → Nat → Nat} {g : Nat → Nat} (hLC : gLC g n Rm) {p : Program} {l : Launch} {e : Env} {s : State} {m : MethodId} {args : Array Value} {below : List Frame} {meth : Method} {c : Code} (hM : gMC w p l s m args meth c cX9_readsStack 7 RX9 none) (k181 : Nat → Int → Int → Int → gMem → Option gMem) (hk181 : ∀ (a0 : Nat) (x1 : Int) (x2 : Int) (x5 : Int) (M : gMem) (r : gMem) (hg0 : g a0 = 9) (hr1 : gRI x1) (hr2 : gRI x2) (hr5 : gRI x5) (hf : k181 a0 x1 x2 x5 M = some r) (H : Heap) (locs : List Loc) (ls : Array Slot) (hH : gH w n Rm M s H locs) (hl : lv_has ls 7 [(0, .ref (w.1 + a0)), (1, .int (gi x1)), (2, .int (gi x2)), (5, .int (gi x5))]), W p l e { frames := 9, cells := 0, slots := 0, locals := 272 } s m args below meth c H locs 0 0 (gQ w n Rm below args s 0 0 (.inr none) r True) (F0 m 181 ls [])) : ∀ (a0 : Nat) (x1 : Int) (x2 : Int) (x5 : Int) (M : gMem) (r : gMem) (hg0 : g a0 = 9) (hr1 : gRI x1) (hr2 : gRI x2) (hr5 : gRI x5) (hf : fX9_readsStack_205 g k181 a0 x1 x2 x5 M = some r) (H : Heap) (locs : List Loc) (ls : Array Slot) (hH : gH w n Rm M s H locs) (hl : lv_has ls 7 [(0, .ref (w.1 + a0)), (1, .int (gi x1)), (2, .int (gi x2)), (5, .int (gi x5))]), W p l e { frames := 9, cells := 0, slots := 0, locals := 272 } s m args below meth c H locs 0 0 (gQ w n Rm below args s 0 0 (.inr none) r True) (F0 m 205 ls []) := by
  intro a0 x1 x2 x5 M r hg0 hr1 hr2 hr5 hf H locs ls hH hl
  unfold fX9_readsStack_205 at hf
  refine lv_iload hM.fx.1 hM.fx.2.1 dX9_readsStack_205 (lv_at hl 3 rfl) ?_
  refine lv_iload_n hM.fx.1 hM.fx.2.1 dX9_readsStack_207 rfl (lv_at hl 2 rfl) ?_
  refine r_icmp_ne (tgt := 217) hM.fx hr5 hr2 dX9_readsStack_208 (by decide) (fun h_1 => ?_) (fun h_1 => ?_)
  · have hf := gneg' h_1 hf
    exact wX9_readsStack_217 hLC hM k181 hk181  _ _ _ _ _ _ hg0 hr1 hr2 hr5 hf _ _ _ hH hl
  · have hf := gpos h_1 hf
    refine lv_aload_n hM.fx.1 hM.fx.2.1 dX9_readsStack_211 rfl (lv_at hl 0 rfl) ?_
    refine lv_bipush (v := gi (-6)) hM.fx.1 hM.fx.2.1 dX9_readsStack_212 (by decide) ?_
    obtain ⟨M_3, eM_3, hf⟩ := gbd hf
    refine r_go0 hH rfl (r_runV (As := [.int (gi ((-6)))]) hM hH cv_X9_117 (mX9_fails hLC hM.ns hg0 (gcR (k := -6) (by decide)) eM_3) (hLC.in hg0 (by decide)) (by decide) rfl rfl rfl hl.1 rfl (Nat.le_of_ble_eq_true rfl) ⟨(Nat.le_of_ble_eq_true rfl), (Nat.le_of_ble_eq_true rfl)⟩ ⟨(Nat.le_of_ble_eq_true rfl), (Nat.le_of_ble_eq_true rfl)⟩ dX9_readsStack_214) (fun hp_2 H locs hH => ?_)
    exact wX9_readsStack_217 hLC hM k181 hk181  _ _ _ _ _ _ hg0 hr1 hr2 hr5 hf _ _ _ hH hl
def fX9_readsStack_181 (g : Nat → Nat)  : Nat → Nat → Int → Int → Int → gMem → Option gMem
  | 0, _, _, _, _, _ => none
  | fu + 1, a0, x1, x2, x5, M => if M a0 14 = 0 then (if M a0 12 = 1 then (fX9_readsStack_205 g (fX9_readsStack_181 g fu) a0 x1 x2 x5 M) else ((fX9_isSign g a0 45 M).bind fun x_6 => if x_6 = 0 then (fX9_readsStack_248 g a0 x1 x5 M) else (fX9_readsStack_205 g (fX9_readsStack_181 g fu) a0 x1 x2 x5 M))) else (fX9_readsStack_248 g a0 x1 x5 M)
set_option maxHeartbeats 4000000 in
set_option maxRecDepth 100000 in
theorem wX9_readsStack_181 {w : gW} {n : Nat} {Rm : Nat → Nat → Nat} {g : Nat → Nat} (hLC : gLC g n Rm) {p : Program} {l : Launch} {e : Env} {s : State} {m : MethodId} {args : Array Value} {below : List Frame} {meth : Method} {c : Code} (hM : gMC w p l s m args meth c cX9_readsStack 7 RX9 none)  : ∀ (fu : Nat), ∀ (a0 : Nat) (x1 : Int) (x2 : Int) (x5 : Int) (M : gMem) (r : gMem) (hg0 : g a0 = 9) (hr1 : gRI x1) (hr2 : gRI x2) (hr5 : gRI x5) (hf : fX9_readsStack_181 g fu a0 x1 x2 x5 M = some r) (H : Heap) (locs : List Loc) (ls : Array Slot) (hH : gH w n Rm M s H locs) (hl : lv_has ls 7 [(0, .ref (w.1 + a0)), (1, .int (gi x1)), (2, .int (gi x2)), (5, .int (gi x5))]), W p l e { frames := 9, cells := 0, slots := 0, locals := 272 } s m args below meth c H locs 0 0 (gQ w n Rm below args s 0 0 (.inr none) r True) (F0 m 181 ls []) := by
  intro fu
  induction fu with
  | zero =>
    intro a0 x1 x2 x5 M r hg0 hr1 hr2 hr5 hf H locs ls hH hl
    exact absurd hf (by simp [fX9_readsStack_181])
  | succ fu ih =>
    intro a0 x1 x2 x5 M r hg0 hr1 hr2 hr5 hf H locs ls hH hl
    unfold fX9_readsStack_181 at hf
    refine lv_aload_n hM.fx.1 hM.fx.2.1 dX9_readsStack_181 rfl (lv_at hl 0 rfl) ?_
    refine r_getI hM.fx hM.kf hH fl_X9_101 (hLC.in hg0 (by decide)) dX9_readsStack_182 ?_
    have hr_1 := hH.2.2.i (hLC.in hg0 (by decide)).2.2 (by decide : glg 9 14 = false)
    refine r_if_ne (tgt := 248) hM.fx hr_1 dX9_readsStack_185 (by decide) (fun h_2 => ?_) (fun h_2 => ?_)
    · have hf := gneg' h_2 hf
      exact wX9_readsStack_248 hLC hM   _ _ _ _ _ hg0 hr1 hr5 hf _ _ _ hH (lv_sub hl [0, 1, 3] rfl)
    · have hf := gpos h_2 hf
      refine lv_aload_n hM.fx.1 hM.fx.2.1 dX9_readsStack_188 rfl (lv_at hl 0 rfl) ?_
      refine r_getI hM.fx hM.kf hH fl_X9_84 (hLC.in hg0 (by decide)) dX9_readsStack_189 ?_
      have hr_3 := hH.2.2.i (hLC.in hg0 (by decide)).2.2 (by decide : glg 9 12 = false)
      refine lv_iconst (v := gi (1)) hM.fx.1 hM.fx.2.1 dX9_readsStack_192 rfl ?_
      refine r_icmp_eq (tgt := 205) hM.fx hr_3 (gcR (k := 1) (by decide)) dX9_readsStack_193 (by decide) (fun h_4 => ?_) (fun h_4 => ?_)
      · have hf := gpos h_4 hf
        exact wX9_readsStack_205 hLC hM (fX9_readsStack_181 g fu) ih  _ _ _ _ _ _ hg0 hr1 hr2 hr5 hf _ _ _ hH hl
      · have hf := gneg' h_4 hf
        refine lv_aload_n hM.fx.1 hM.fx.2.1 dX9_readsStack_196 rfl (lv_at hl 0 rfl) ?_
        refine lv_bipush (v := gi (45)) hM.fx.1 hM.fx.2.1 dX9_readsStack_197 (by decide) ?_
        obtain ⟨x_6, ex_6, hf⟩ := gbd hf
        refine r_go1 hH rfl (r_runV (As := [.int (gi 45)]) hM hH cv_X9_127 (mX9_isSign hLC hM.ns hg0 (gcR (k := 45) (by decide)) ex_6) (hLC.in hg0 (by decide)) (by decide) rfl rfl rfl hl.1 rfl (Nat.le_of_ble_eq_true rfl) ⟨(Nat.le_of_ble_eq_true rfl), (Nat.le_of_ble_eq_true rfl)⟩ ⟨(Nat.le_of_ble_eq_true rfl), (Nat.le_of_ble_eq_true rfl)⟩ dX9_readsStack_199) (fun hp_5 H locs hH => ?_)
        refine r_if_eq (tgt := 248) hM.fx (gz_r hp_5) dX9_readsStack_202 (by decide) (fun h_7 => ?_) (fun h_7 => ?_)
        · have hf := gpos h_7 hf
          exact wX9_readsStack_248 hLC hM   _ _ _ _ _ hg0 hr1 hr5 hf _ _ _ hH (lv_sub hl [0, 1, 3] rfl)
        · have hf := gneg' h_7 hf
          exact wX9_readsStack_205 hLC hM (fX9_readsStack_181 g fu) ih  _ _ _ _ _ _ hg0 hr1 hr2 hr5 hf _ _ _ hH hl
def fX9_readsStack_143 (g : Nat → Nat)  (a0 : Nat) (x1 : Int) (x2 : Int) (x3 : Int) (x4 : Int) (M : gMem) : Option gMem :=
  (fX9_must g a0 1 M).bind fun M_2 => if M_2 a0 14 = 0 then ((fX9_puts g a0 x1 0 x2 M_2).bind fun M_6 => (fX9_puts g a0 x1 2 x3 M_6).bind fun M_8 => (fX9_puts g a0 x1 3 x4 M_8).bind fun M_10 => fX9_readsStack_181 g gF a0 x1 x2 0 M_10) else (some M_2)
set_option maxHeartbeats 4000000 in
set_option maxRecDepth 100000 in
theorem wX9_readsStack_143 {w : gW} {n : Nat} {Rm : Nat → Nat → Nat} {g : Nat → Nat} (hLC : gLC g n Rm) {p : Program} {l : Launch} {e : Env} {s : State} {m : MethodId} {args : Array Value} {below : List Frame} {meth : Method} {c : Code} (hM : gMC w p l s m args meth c cX9_readsStack 7 RX9 none)  : ∀ (a0 : Nat) (x1 : Int) (x2 : Int) (x3 : Int) (x4 : Int) (M : gMem) (r : gMem) (hg0 : g a0 = 9) (hr1 : gRI x1) (hr2 : gRI x2) (hr3 : gRI x3) (hr4 : gRI x4) (hf : fX9_readsStack_143 g a0 x1 x2 x3 x4 M = some r) (H : Heap) (locs : List Loc) (ls : Array Slot) (hH : gH w n Rm M s H locs) (hl : lv_has ls 7 [(0, .ref (w.1 + a0)), (1, .int (gi x1)), (2, .int (gi x2)), (3, .int (gi x3)), (4, .int (gi x4))]), W p l e { frames := 9, cells := 0, slots := 0, locals := 272 } s m args below meth c H locs 0 0 (gQ w n Rm below args s 0 0 (.inr none) r True) (F0 m 143 ls []) := by
  intro a0 x1 x2 x3 x4 M r hg0 hr1 hr2 hr3 hr4 hf H locs ls hH hl
  unfold fX9_readsStack_143 at hf
  refine lv_aload_n hM.fx.1 hM.fx.2.1 dX9_readsStack_143 rfl (lv_at hl 0 rfl) ?_
  refine lv_iconst (v := gi (1)) hM.fx.1 hM.fx.2.1 dX9_readsStack_144 rfl ?_
  obtain ⟨M_2, eM_2, hf⟩ := gbd hf
  refine r_go0 hH rfl (r_runV (As := [.int (gi 1)]) hM hH cv_X9_174 (mX9_must hLC hM.ns hg0 (gcR (k := 1) (by decide)) eM_2) (hLC.in hg0 (by decide)) (by decide) rfl rfl rfl hl.1 rfl (Nat.le_of_ble_eq_true rfl) ⟨(Nat.le_of_ble_eq_true rfl), (Nat.le_of_ble_eq_true rfl)⟩ ⟨(Nat.le_of_ble_eq_true rfl), (Nat.le_of_ble_eq_true rfl)⟩ dX9_readsStack_145) (fun hp_1 H locs hH => ?_)
  refine lv_aload_n hM.fx.1 hM.fx.2.1 dX9_readsStack_148 rfl (lv_at hl 0 rfl) ?_
  refine r_getI hM.fx hM.kf hH fl_X9_101 (hLC.in hg0 (by decide)) dX9_readsStack_149 ?_
  have hr_3 := hH.2.2.i (hLC.in hg0 (by decide)).2.2 (by decide : glg 9 14 = false)
  refine r_if_eq (tgt := 156) hM.fx hr_3 dX9_readsStack_152 (by decide) (fun h_4 => ?_) (fun h_4 => ?_)
  · have hf := gpos h_4 hf
    refine lv_aload_n hM.fx.1 hM.fx.2.1 dX9_readsStack_156 rfl (lv_at hl 0 rfl) ?_
    refine lv_iload_n hM.fx.1 hM.fx.2.1 dX9_readsStack_157 rfl (lv_at hl 1 rfl) ?_
    refine lv_iconst (v := gi (0)) hM.fx.1 hM.fx.2.1 dX9_readsStack_158 rfl ?_
    refine lv_iload_n hM.fx.1 hM.fx.2.1 dX9_readsStack_159 rfl (lv_at hl 2 rfl) ?_
    obtain ⟨M_6, eM_6, hf⟩ := gbd hf
    refine r_go0 hH rfl (r_runV (As := [.int (gi x1), .int (gi 0), .int (gi x2)]) hM hH cv_X9_219 (mX9_puts hLC hM.ns hg0 hr1 (gcR (k := 0) (by decide)) hr2 eM_6) (hLC.in hg0 (by decide)) (by decide) rfl rfl rfl hl.1 rfl (Nat.le_of_ble_eq_true rfl) ⟨(Nat.le_of_ble_eq_true rfl), (Nat.le_of_ble_eq_true rfl)⟩ ⟨(Nat.le_of_ble_eq_true rfl), (Nat.le_of_ble_eq_true rfl)⟩ dX9_readsStack_160) (fun hp_5 H locs hH => ?_)
    refine lv_aload_n hM.fx.1 hM.fx.2.1 dX9_readsStack_163 rfl (lv_at hl 0 rfl) ?_
    refine lv_iload_n hM.fx.1 hM.fx.2.1 dX9_readsStack_164 rfl (lv_at hl 1 rfl) ?_
    refine lv_iconst (v := gi (2)) hM.fx.1 hM.fx.2.1 dX9_readsStack_165 rfl ?_
    refine lv_iload_n hM.fx.1 hM.fx.2.1 dX9_readsStack_166 rfl (lv_at hl 3 rfl) ?_
    obtain ⟨M_8, eM_8, hf⟩ := gbd hf
    refine r_go0 hH rfl (r_runV (As := [.int (gi x1), .int (gi 2), .int (gi x3)]) hM hH cv_X9_219 (mX9_puts hLC hM.ns hg0 hr1 (gcR (k := 2) (by decide)) hr3 eM_8) (hLC.in hg0 (by decide)) (by decide) rfl rfl rfl hl.1 rfl (Nat.le_of_ble_eq_true rfl) ⟨(Nat.le_of_ble_eq_true rfl), (Nat.le_of_ble_eq_true rfl)⟩ ⟨(Nat.le_of_ble_eq_true rfl), (Nat.le_of_ble_eq_true rfl)⟩ dX9_readsStack_167) (fun hp_7 H locs hH => ?_)
    refine lv_aload_n hM.fx.1 hM.fx.2.1 dX9_readsStack_170 rfl (lv_at hl 0 rfl) ?_
    refine lv_iload_n hM.fx.1 hM.fx.2.1 dX9_readsStack_171 rfl (lv_at hl 1 rfl) ?_
    refine lv_iconst (v := gi (3)) hM.fx.1 hM.fx.2.1 dX9_readsStack_172 rfl ?_
    refine lv_iload hM.fx.1 hM.fx.2.1 dX9_readsStack_173 (lv_at hl 4 rfl) ?_
    obtain ⟨M_10, eM_10, hf⟩ := gbd hf
    refine r_go0 hH rfl (r_runV (As := [.int (gi x1), .int (gi 3), .int (gi x4)]) hM hH cv_X9_219 (mX9_puts hLC hM.ns hg0 hr1 (gcR (k := 3) (by decide)) hr4 eM_10) (hLC.in hg0 (by decide)) (by decide) rfl rfl rfl hl.1 rfl (Nat.le_of_ble_eq_true rfl) ⟨(Nat.le_of_ble_eq_true rfl), (Nat.le_of_ble_eq_true rfl)⟩ ⟨(Nat.le_of_ble_eq_true rfl), (Nat.le_of_ble_eq_true rfl)⟩ dX9_readsStack_175) (fun hp_9 H locs hH => ?_)
    refine lv_iconst (v := gi (0)) hM.fx.1 hM.fx.2.1 dX9_readsStack_178 rfl ?_
    refine lv_istore (lv' := [(5, .int (gi 0)), (0, .ref (w.1 + a0)), (1, .int (gi x1)), (2, .int (gi x2)), (3, .int (gi x3)), (4, .int (gi x4))]) hM.fx.1 hM.fx.2.1 dX9_readsStack_179 hl (by decide) rfl (fun ls hl => ?_)
    exact wX9_readsStack_181 hLC hM  gF _ _ _ _ _ _ hg0 hr1 hr2 (gcR (k := 0) (by decide)) hf _ _ _ hH (lv_sub hl [1, 2, 3, 0] rfl)
  · have hf := gneg' h_4 hf
    obtain rfl := Option.some.inj hf
    exact r_vret hM hH trivial ⟨(Nat.le_of_ble_eq_true rfl), (Nat.le_of_ble_eq_true rfl)⟩ dX9_readsStack_155
def fX9_readsStack_70 (g : Nat → Nat)  (a0 : Nat) (x1 : Int) (x2 : Int) (x3 : Int) (x4 : Int) (M : gMem) : Option gMem :=
  if M a0 14 = 0 then ((fX9_inHand g a0 x3 M).bind fun x_4 => if x_4 = (-1) then (fX9_readsStack_143 g a0 x1 x2 x3 x4 M) else ((fX9_fails g a0 ((-5)) M).bind fun M_7 => fX9_readsStack_143 g a0 x1 x2 x3 x4 M_7)) else (fX9_readsStack_143 g a0 x1 x2 x3 x4 M)
set_option maxHeartbeats 4000000 in
set_option maxRecDepth 100000 in
theorem wX9_readsStack_70 {w : gW} {n : Nat} {Rm : Nat → Nat → Nat} {g : Nat → Nat} (hLC : gLC g n Rm) {p : Program} {l : Launch} {e : Env} {s : State} {m : MethodId} {args : Array Value} {below : List Frame} {meth : Method} {c : Code} (hM : gMC w p l s m args meth c cX9_readsStack 7 RX9 none)  : ∀ (a0 : Nat) (x1 : Int) (x2 : Int) (x3 : Int) (x4 : Int) (M : gMem) (r : gMem) (hg0 : g a0 = 9) (hr1 : gRI x1) (hr2 : gRI x2) (hr3 : gRI x3) (hr4 : gRI x4) (hf : fX9_readsStack_70 g a0 x1 x2 x3 x4 M = some r) (H : Heap) (locs : List Loc) (ls : Array Slot) (hH : gH w n Rm M s H locs) (hl : lv_has ls 7 [(0, .ref (w.1 + a0)), (1, .int (gi x1)), (2, .int (gi x2)), (3, .int (gi x3)), (4, .int (gi x4))]), W p l e { frames := 9, cells := 0, slots := 0, locals := 272 } s m args below meth c H locs 0 0 (gQ w n Rm below args s 0 0 (.inr none) r True) (F0 m 70 ls []) := by
  intro a0 x1 x2 x3 x4 M r hg0 hr1 hr2 hr3 hr4 hf H locs ls hH hl
  unfold fX9_readsStack_70 at hf
  refine lv_aload_n hM.fx.1 hM.fx.2.1 dX9_readsStack_70 rfl (lv_at hl 0 rfl) ?_
  refine r_getI hM.fx hM.kf hH fl_X9_101 (hLC.in hg0 (by decide)) dX9_readsStack_71 ?_
  have hr_1 := hH.2.2.i (hLC.in hg0 (by decide)).2.2 (by decide : glg 9 14 = false)
  refine r_if_ne (tgt := 143) hM.fx hr_1 dX9_readsStack_74 (by decide) (fun h_2 => ?_) (fun h_2 => ?_)
  · have hf := gneg' h_2 hf
    exact wX9_readsStack_143 hLC hM   _ _ _ _ _ _ _ hg0 hr1 hr2 hr3 hr4 hf _ _ _ hH hl
  · have hf := gpos h_2 hf
    refine lv_aload_n hM.fx.1 hM.fx.2.1 dX9_readsStack_77 rfl (lv_at hl 0 rfl) ?_
    refine lv_iload_n hM.fx.1 hM.fx.2.1 dX9_readsStack_78 rfl (lv_at hl 3 rfl) ?_
    obtain ⟨x_4, ex_4, hf⟩ := gbd hf
    refine r_go1 hH rfl (r_runV (As := [.int (gi x3)]) hM hH cv_X9_212 (mX9_inHand hLC hM.ns hg0 hr3 ex_4) (hLC.in hg0 (by decide)) (by decide) rfl rfl rfl hl.1 rfl (Nat.le_of_ble_eq_true rfl) ⟨(Nat.le_of_ble_eq_true rfl), (Nat.le_of_ble_eq_true rfl)⟩ ⟨(Nat.le_of_ble_eq_true rfl), (Nat.le_of_ble_eq_true rfl)⟩ dX9_readsStack_79) (fun hp_3 H locs hH => ?_)
    refine lv_iconst (v := gi (-1)) hM.fx.1 hM.fx.2.1 dX9_readsStack_82 rfl ?_
    refine r_icmp_eq (tgt := 143) hM.fx hp_3 (gcR (k := -1) (by decide)) dX9_readsStack_83 (by decide) (fun h_5 => ?_) (fun h_5 => ?_)
    · have hf := gpos h_5 hf
      exact wX9_readsStack_143 hLC hM   _ _ _ _ _ _ _ hg0 hr1 hr2 hr3 hr4 hf _ _ _ hH hl
    · have hf := gneg' h_5 hf
      refine lv_aload_n hM.fx.1 hM.fx.2.1 dX9_readsStack_86 rfl (lv_at hl 0 rfl) ?_
      refine lv_bipush (v := gi (-5)) hM.fx.1 hM.fx.2.1 dX9_readsStack_87 (by decide) ?_
      obtain ⟨M_7, eM_7, hf⟩ := gbd hf
      refine r_go0 hH rfl (r_runV (As := [.int (gi ((-5)))]) hM hH cv_X9_117 (mX9_fails hLC hM.ns hg0 (gcR (k := -5) (by decide)) eM_7) (hLC.in hg0 (by decide)) (by decide) rfl rfl rfl hl.1 rfl (Nat.le_of_ble_eq_true rfl) ⟨(Nat.le_of_ble_eq_true rfl), (Nat.le_of_ble_eq_true rfl)⟩ ⟨(Nat.le_of_ble_eq_true rfl), (Nat.le_of_ble_eq_true rfl)⟩ dX9_readsStack_89) (fun hp_6 H locs hH => ?_)
      refine lv_goto (tgt := 143) hM.fx.1 hM.fx.2.1 dX9_readsStack_92 (by decide) ?_
      exact wX9_readsStack_143 hLC hM   _ _ _ _ _ _ _ hg0 hr1 hr2 hr3 hr4 hf _ _ _ hH hl
def fX9_readsStack_19 (g : Nat → Nat)  (a0 : Nat) (x1 : Int) (M : gMem) : Option gMem :=
  (fX9_must g a0 1 M).bind fun M_2 => (fX9_takes g a0 1 16 M_2).bind fun q_4 => gst q_4.1 fun x_5 => gst ((-1)) fun x_6 => gst ((-1)) fun x_7 => (fX9_isWord g a0 59 q_4.2).bind fun x_9 => if x_9 = 0 then ((fX9_isWord g a0 60 q_4.2).bind fun x_12 => (fX9_must g a0 x_12 q_4.2).bind fun M_14 => if (0 : Int) ≤ 0 ∧ (0 : Int) < 1190 then (fX9_stands g a0 0 (gwi (M_14 (a0 + 1) (0 : Int).toNat - 1)) M_14).bind fun q_18 => gst q_18.1 fun x_19 => if q_18.2 a0 14 = 0 then ((fX9_onSlot g a0 x_19 q_18.2).bind fun x_23 => if x_23 = (-1) then (fX9_readsStack_143 g a0 x1 x_5 x_6 x_19 q_18.2) else ((fX9_fails g a0 ((-5)) q_18.2).bind fun M_26 => fX9_readsStack_143 g a0 x1 x_5 x_6 x_19 M_26)) else (fX9_readsStack_143 g a0 x1 x_5 x_6 x_19 q_18.2) else none) else ((fX9_next g a0 q_4.2).bind fun M_28 => (fX9_mustName g a0 M_28).bind fun M_30 => (fX9_named g a0 M_30).bind fun x_32 => if x_32 = (-1) then ((fX9_fails g a0 ((-4)) M_30).bind fun M_35 => fX9_readsStack_70 g a0 x1 x_5 x_32 x_7 M_35) else (fX9_readsStack_70 g a0 x1 x_5 x_32 x_7 M_30))
set_option maxHeartbeats 4000000 in
set_option maxRecDepth 100000 in
theorem wX9_readsStack_19 {w : gW} {n : Nat} {Rm : Nat → Nat → Nat} {g : Nat → Nat} (hLC : gLC g n Rm) {p : Program} {l : Launch} {e : Env} {s : State} {m : MethodId} {args : Array Value} {below : List Frame} {meth : Method} {c : Code} (hM : gMC w p l s m args meth c cX9_readsStack 7 RX9 none)  : ∀ (a0 : Nat) (x1 : Int) (M : gMem) (r : gMem) (hg0 : g a0 = 9) (hr1 : gRI x1) (hf : fX9_readsStack_19 g a0 x1 M = some r) (H : Heap) (locs : List Loc) (ls : Array Slot) (hH : gH w n Rm M s H locs) (hl : lv_has ls 7 [(0, .ref (w.1 + a0)), (1, .int (gi x1))]), W p l e { frames := 9, cells := 0, slots := 0, locals := 272 } s m args below meth c H locs 0 0 (gQ w n Rm below args s 0 0 (.inr none) r True) (F0 m 19 ls []) := by
  intro a0 x1 M r hg0 hr1 hf H locs ls hH hl
  unfold fX9_readsStack_19 at hf
  refine lv_aload_n hM.fx.1 hM.fx.2.1 dX9_readsStack_19 rfl (lv_at hl 0 rfl) ?_
  refine lv_iconst (v := gi (1)) hM.fx.1 hM.fx.2.1 dX9_readsStack_20 rfl ?_
  obtain ⟨M_2, eM_2, hf⟩ := gbd hf
  refine r_go0 hH rfl (r_runV (As := [.int (gi 1)]) hM hH cv_X9_174 (mX9_must hLC hM.ns hg0 (gcR (k := 1) (by decide)) eM_2) (hLC.in hg0 (by decide)) (by decide) rfl rfl rfl hl.1 rfl (Nat.le_of_ble_eq_true rfl) ⟨(Nat.le_of_ble_eq_true rfl), (Nat.le_of_ble_eq_true rfl)⟩ ⟨(Nat.le_of_ble_eq_true rfl), (Nat.le_of_ble_eq_true rfl)⟩ dX9_readsStack_21) (fun hp_1 H locs hH => ?_)
  refine lv_aload_n hM.fx.1 hM.fx.2.1 dX9_readsStack_24 rfl (lv_at hl 0 rfl) ?_
  refine lv_iconst (v := gi (1)) hM.fx.1 hM.fx.2.1 dX9_readsStack_25 rfl ?_
  refine lv_bipush (v := gi (16)) hM.fx.1 hM.fx.2.1 dX9_readsStack_26 (by decide) ?_
  obtain ⟨q_4, eq_4, hf⟩ := gbd hf
  refine r_go1 hH rfl (r_runV (As := [.int (gi 1), .int (gi 16)]) hM hH cv_X9_132 (mX9_takes hLC hM.ns hg0 (gcR (k := 1) (by decide)) (gcR (k := 16) (by decide)) eq_4) (hLC.in hg0 (by decide)) (by decide) rfl rfl rfl hl.1 rfl (Nat.le_of_ble_eq_true rfl) ⟨(Nat.le_of_ble_eq_true rfl), (Nat.le_of_ble_eq_true rfl)⟩ ⟨(Nat.le_of_ble_eq_true rfl), (Nat.le_of_ble_eq_true rfl)⟩ dX9_readsStack_28) (fun hp_3 H locs hH => ?_)
  obtain ⟨x_5, ex_5, hf⟩ := gst_s hf
  refine W.eq (g2 := F0 m _ ls (.int (gi x_5) :: _)) (by rw [ex_5]) ?_
  have hx_5 : gRI x_5 := by rw [ex_5]; exact hp_3
  refine lv_istore_n (lv' := [(2, .int (gi x_5)), (0, .ref (w.1 + a0)), (1, .int (gi x1))]) hM.fx.1 hM.fx.2.1 dX9_readsStack_31 rfl hl (by decide) rfl (fun ls hl => ?_)
  refine lv_iconst (v := gi (-1)) hM.fx.1 hM.fx.2.1 dX9_readsStack_32 rfl ?_
  obtain ⟨x_6, ex_6, hf⟩ := gst_s hf
  refine W.eq (g2 := F0 m _ ls (.int (gi x_6) :: _)) (by rw [ex_6]) ?_
  have hx_6 : gRI x_6 := by rw [ex_6]; exact (gcR (k := -1) (by decide))
  refine lv_istore_n (lv' := [(3, .int (gi x_6)), (2, .int (gi x_5)), (0, .ref (w.1 + a0)), (1, .int (gi x1))]) hM.fx.1 hM.fx.2.1 dX9_readsStack_33 rfl hl (by decide) rfl (fun ls hl => ?_)
  refine lv_iconst (v := gi (-1)) hM.fx.1 hM.fx.2.1 dX9_readsStack_34 rfl ?_
  obtain ⟨x_7, ex_7, hf⟩ := gst_s hf
  refine W.eq (g2 := F0 m _ ls (.int (gi x_7) :: _)) (by rw [ex_7]) ?_
  have hx_7 : gRI x_7 := by rw [ex_7]; exact (gcR (k := -1) (by decide))
  refine lv_istore (lv' := [(4, .int (gi x_7)), (3, .int (gi x_6)), (2, .int (gi x_5)), (0, .ref (w.1 + a0)), (1, .int (gi x1))]) hM.fx.1 hM.fx.2.1 dX9_readsStack_35 hl (by decide) rfl (fun ls hl => ?_)
  refine lv_aload_n hM.fx.1 hM.fx.2.1 dX9_readsStack_37 rfl (lv_at hl 3 rfl) ?_
  refine r_ldcS (tx := "with") hM.fx hM.kf 59 rfl dX9_readsStack_38 ?_
  obtain ⟨x_9, ex_9, hf⟩ := gbd hf
  refine r_go1 hH rfl (r_runV (As := [gsR w 59]) hM hH cv_X9_170 (mX9_isWord hLC hM.ns hg0 (by decide : gtx 59 ≠ []) ex_9) (hLC.in hg0 (by decide)) (by decide) rfl rfl rfl hl.1 rfl (Nat.le_of_ble_eq_true rfl) ⟨(Nat.le_of_ble_eq_true rfl), (Nat.le_of_ble_eq_true rfl)⟩ ⟨(Nat.le_of_ble_eq_true rfl), (Nat.le_of_ble_eq_true rfl)⟩ dX9_readsStack_40) (fun hp_8 H locs hH => ?_)
  refine r_if_eq (tgt := 95) hM.fx (gz_r hp_8) dX9_readsStack_43 (by decide) (fun h_10 => ?_) (fun h_10 => ?_)
  · have hf := gpos h_10 hf
    refine lv_aload_n hM.fx.1 hM.fx.2.1 dX9_readsStack_95 rfl (lv_at hl 3 rfl) ?_
    refine lv_aload_n hM.fx.1 hM.fx.2.1 dX9_readsStack_96 rfl (lv_at hl 3 rfl) ?_
    refine r_ldcS (tx := "at") hM.fx hM.kf 60 rfl dX9_readsStack_97 ?_
    obtain ⟨x_12, ex_12, hf⟩ := gbd hf
    refine r_go1 hH rfl (r_runV (As := [gsR w 60]) hM hH cv_X9_170 (mX9_isWord hLC hM.ns hg0 (by decide : gtx 60 ≠ []) ex_12) (hLC.in hg0 (by decide)) (by decide) rfl rfl rfl hl.1 rfl (Nat.le_of_ble_eq_true rfl) ⟨(Nat.le_of_ble_eq_true rfl), (Nat.le_of_ble_eq_true rfl)⟩ ⟨(Nat.le_of_ble_eq_true rfl), (Nat.le_of_ble_eq_true rfl)⟩ dX9_readsStack_99) (fun hp_11 H locs hH => ?_)
    obtain ⟨M_14, eM_14, hf⟩ := gbd hf
    refine r_go0 hH rfl (r_runV (As := [.int (gi x_12)]) hM hH cv_X9_174 (mX9_must hLC hM.ns hg0 (gz_r hp_11) eM_14) (hLC.in hg0 (by decide)) (by decide) rfl rfl rfl hl.1 rfl (Nat.le_of_ble_eq_true rfl) ⟨(Nat.le_of_ble_eq_true rfl), (Nat.le_of_ble_eq_true rfl)⟩ ⟨(Nat.le_of_ble_eq_true rfl), (Nat.le_of_ble_eq_true rfl)⟩ dX9_readsStack_102) (fun hp_13 H locs hH => ?_)
    refine lv_aload_n hM.fx.1 hM.fx.2.1 dX9_readsStack_105 rfl (lv_at hl 3 rfl) ?_
    refine lv_iconst (v := gi (0)) hM.fx.1 hM.fx.2.1 dX9_readsStack_106 rfl ?_
    refine lv_aload_n hM.fx.1 hM.fx.2.1 dX9_readsStack_107 rfl (lv_at hl 3 rfl) ?_
    refine r_getR hM.fx hM.kf hH hLC fl_X9_7 hg0 gch_9_0 dX9_readsStack_108 ?_
    refine lv_iconst (v := gi (0)) hM.fx.1 hM.fx.2.1 dX9_readsStack_111 rfl ?_
    obtain ⟨g_15, hf⟩ := gif hf
    refine r_iald hM.fx hM.kf hH (hLC.in (hLC.ch hg0 (by decide) gch_9_0) (by decide)) (⟨by decide, by decide⟩ : gAr 19056 0) (gcR (k := 0) (by decide)) g_15 dX9_readsStack_112 ?_
    have hr_16 := hH.2.2.i (k := (0 : Int).toNat) (hLC.in (hLC.ch hg0 (by decide) gch_9_0) (by decide)).2.2 (glg_a (⟨by decide, by decide⟩ : gAr 19056 0))
    refine lv_iconst (v := gi (1)) hM.fx.1 hM.fx.2.1 dX9_readsStack_113 rfl ?_
    refine r_isub hM.fx dX9_readsStack_114 ?_
    obtain ⟨q_18, eq_18, hf⟩ := gbd hf
    refine r_go1 hH rfl (r_runV (As := [.int (gi 0), .int (gi (gwi (M_14 (a0 + 1) (0 : Int).toNat - 1)))]) hM hH cv_X9_124 (mX9_stands hLC hM.ns hg0 (gcR (k := 0) (by decide)) (gwi_r _) eq_18) (hLC.in hg0 (by decide)) (by decide) rfl rfl rfl hl.1 rfl (Nat.le_of_ble_eq_true rfl) ⟨(Nat.le_of_ble_eq_true rfl), (Nat.le_of_ble_eq_true rfl)⟩ ⟨(Nat.le_of_ble_eq_true rfl), (Nat.le_of_ble_eq_true rfl)⟩ dX9_readsStack_115) (fun hp_17 H locs hH => ?_)
    obtain ⟨x_19, ex_19, hf⟩ := gst_s hf
    refine W.eq (g2 := F0 m _ ls (.int (gi x_19) :: _)) (by rw [ex_19]) ?_
    have hx_19 : gRI x_19 := by rw [ex_19]; exact hp_17
    refine lv_istore (lv' := [(4, .int (gi x_19)), (3, .int (gi x_6)), (2, .int (gi x_5)), (0, .ref (w.1 + a0)), (1, .int (gi x1))]) hM.fx.1 hM.fx.2.1 dX9_readsStack_118 hl (by decide) rfl (fun ls hl => ?_)
    refine lv_aload_n hM.fx.1 hM.fx.2.1 dX9_readsStack_120 rfl (lv_at hl 3 rfl) ?_
    refine r_getI hM.fx hM.kf hH fl_X9_101 (hLC.in hg0 (by decide)) dX9_readsStack_121 ?_
    have hr_20 := hH.2.2.i (hLC.in hg0 (by decide)).2.2 (by decide : glg 9 14 = false)
    refine r_if_ne (tgt := 143) hM.fx hr_20 dX9_readsStack_124 (by decide) (fun h_21 => ?_) (fun h_21 => ?_)
    · have hf := gneg' h_21 hf
      exact wX9_readsStack_143 hLC hM   _ _ _ _ _ _ _ hg0 hr1 hx_5 hx_6 hx_19 hf _ _ _ hH (lv_sub hl [3, 4, 2, 1, 0] rfl)
    · have hf := gpos h_21 hf
      refine lv_aload_n hM.fx.1 hM.fx.2.1 dX9_readsStack_127 rfl (lv_at hl 3 rfl) ?_
      refine lv_iload hM.fx.1 hM.fx.2.1 dX9_readsStack_128 (lv_at hl 0 rfl) ?_
      obtain ⟨x_23, ex_23, hf⟩ := gbd hf
      refine r_go1 hH rfl (r_runV (As := [.int (gi x_19)]) hM hH cv_X9_216 (mX9_onSlot hLC hM.ns hg0 hx_19 ex_23) (hLC.in hg0 (by decide)) (by decide) rfl rfl rfl hl.1 rfl (Nat.le_of_ble_eq_true rfl) ⟨(Nat.le_of_ble_eq_true rfl), (Nat.le_of_ble_eq_true rfl)⟩ ⟨(Nat.le_of_ble_eq_true rfl), (Nat.le_of_ble_eq_true rfl)⟩ dX9_readsStack_130) (fun hp_22 H locs hH => ?_)
      refine lv_iconst (v := gi (-1)) hM.fx.1 hM.fx.2.1 dX9_readsStack_133 rfl ?_
      refine r_icmp_eq (tgt := 143) hM.fx hp_22 (gcR (k := -1) (by decide)) dX9_readsStack_134 (by decide) (fun h_24 => ?_) (fun h_24 => ?_)
      · have hf := gpos h_24 hf
        exact wX9_readsStack_143 hLC hM   _ _ _ _ _ _ _ hg0 hr1 hx_5 hx_6 hx_19 hf _ _ _ hH (lv_sub hl [3, 4, 2, 1, 0] rfl)
      · have hf := gneg' h_24 hf
        refine lv_aload_n hM.fx.1 hM.fx.2.1 dX9_readsStack_137 rfl (lv_at hl 3 rfl) ?_
        refine lv_bipush (v := gi (-5)) hM.fx.1 hM.fx.2.1 dX9_readsStack_138 (by decide) ?_
        obtain ⟨M_26, eM_26, hf⟩ := gbd hf
        refine r_go0 hH rfl (r_runV (As := [.int (gi ((-5)))]) hM hH cv_X9_117 (mX9_fails hLC hM.ns hg0 (gcR (k := -5) (by decide)) eM_26) (hLC.in hg0 (by decide)) (by decide) rfl rfl rfl hl.1 rfl (Nat.le_of_ble_eq_true rfl) ⟨(Nat.le_of_ble_eq_true rfl), (Nat.le_of_ble_eq_true rfl)⟩ ⟨(Nat.le_of_ble_eq_true rfl), (Nat.le_of_ble_eq_true rfl)⟩ dX9_readsStack_140) (fun hp_25 H locs hH => ?_)
        exact wX9_readsStack_143 hLC hM   _ _ _ _ _ _ _ hg0 hr1 hx_5 hx_6 hx_19 hf _ _ _ hH (lv_sub hl [3, 4, 2, 1, 0] rfl)
  · have hf := gneg' h_10 hf
    refine lv_aload_n hM.fx.1 hM.fx.2.1 dX9_readsStack_46 rfl (lv_at hl 3 rfl) ?_
    obtain ⟨M_28, eM_28, hf⟩ := gbd hf
    refine r_go0 hH rfl (r_runV (As := []) hM hH cv_X9_121 (mX9_next hLC hM.ns hg0 eM_28) (hLC.in hg0 (by decide)) (by decide) rfl rfl rfl hl.1 rfl (Nat.le_of_ble_eq_true rfl) ⟨(Nat.le_of_ble_eq_true rfl), (Nat.le_of_ble_eq_true rfl)⟩ ⟨(Nat.le_of_ble_eq_true rfl), (Nat.le_of_ble_eq_true rfl)⟩ dX9_readsStack_47) (fun hp_27 H locs hH => ?_)
    refine lv_aload_n hM.fx.1 hM.fx.2.1 dX9_readsStack_50 rfl (lv_at hl 3 rfl) ?_
    obtain ⟨M_30, eM_30, hf⟩ := gbd hf
    refine r_go0 hH rfl (r_runV (As := []) hM hH cv_X9_186 (mX9_mustName hLC hM.ns hg0 eM_30) (hLC.in hg0 (by decide)) (by decide) rfl rfl rfl hl.1 rfl (Nat.le_of_ble_eq_true rfl) ⟨(Nat.le_of_ble_eq_true rfl), (Nat.le_of_ble_eq_true rfl)⟩ ⟨(Nat.le_of_ble_eq_true rfl), (Nat.le_of_ble_eq_true rfl)⟩ dX9_readsStack_51) (fun hp_29 H locs hH => ?_)
    refine lv_aload_n hM.fx.1 hM.fx.2.1 dX9_readsStack_54 rfl (lv_at hl 3 rfl) ?_
    obtain ⟨x_32, ex_32, hf⟩ := gbd hf
    refine r_go1 hH rfl (r_runV (As := []) hM hH cv_X9_189 (mX9_named hLC hM.ns hg0 ex_32) (hLC.in hg0 (by decide)) (by decide) rfl rfl rfl hl.1 rfl (Nat.le_of_ble_eq_true rfl) ⟨(Nat.le_of_ble_eq_true rfl), (Nat.le_of_ble_eq_true rfl)⟩ ⟨(Nat.le_of_ble_eq_true rfl), (Nat.le_of_ble_eq_true rfl)⟩ dX9_readsStack_55) (fun hp_31 H locs hH => ?_)
    refine lv_istore_n (lv' := [(3, .int (gi x_32)), (4, .int (gi x_7)), (2, .int (gi x_5)), (0, .ref (w.1 + a0)), (1, .int (gi x1))]) hM.fx.1 hM.fx.2.1 dX9_readsStack_58 rfl hl (by decide) rfl (fun ls hl => ?_)
    refine lv_iload_n hM.fx.1 hM.fx.2.1 dX9_readsStack_59 rfl (lv_at hl 0 rfl) ?_
    refine lv_iconst (v := gi (-1)) hM.fx.1 hM.fx.2.1 dX9_readsStack_60 rfl ?_
    refine r_icmp_ne (tgt := 70) hM.fx hp_31 (gcR (k := -1) (by decide)) dX9_readsStack_61 (by decide) (fun h_33 => ?_) (fun h_33 => ?_)
    · have hf := gneg' h_33 hf
      exact wX9_readsStack_70 hLC hM   _ _ _ _ _ _ _ hg0 hr1 hx_5 hp_31 hx_7 hf _ _ _ hH (lv_sub hl [3, 4, 2, 0, 1] rfl)
    · have hf := gpos h_33 hf
      refine lv_aload_n hM.fx.1 hM.fx.2.1 dX9_readsStack_64 rfl (lv_at hl 3 rfl) ?_
      refine lv_bipush (v := gi (-4)) hM.fx.1 hM.fx.2.1 dX9_readsStack_65 (by decide) ?_
      obtain ⟨M_35, eM_35, hf⟩ := gbd hf
      refine r_go0 hH rfl (r_runV (As := [.int (gi ((-4)))]) hM hH cv_X9_117 (mX9_fails hLC hM.ns hg0 (gcR (k := -4) (by decide)) eM_35) (hLC.in hg0 (by decide)) (by decide) rfl rfl rfl hl.1 rfl (Nat.le_of_ble_eq_true rfl) ⟨(Nat.le_of_ble_eq_true rfl), (Nat.le_of_ble_eq_true rfl)⟩ ⟨(Nat.le_of_ble_eq_true rfl), (Nat.le_of_ble_eq_true rfl)⟩ dX9_readsStack_67) (fun hp_34 H locs hH => ?_)
      exact wX9_readsStack_70 hLC hM   _ _ _ _ _ _ _ hg0 hr1 hx_5 hp_31 hx_7 hf _ _ _ hH (lv_sub hl [3, 4, 2, 0, 1] rfl)
def fX9_readsStack (g : Nat → Nat) (a0 : Nat) (M : gMem) : Option gMem :=
  if (0 : Int) ≤ 2 ∧ (2 : Int) < 1190 then gst (M (a0 + 1) (2 : Int).toNat) fun x_3 => if x_3 = 12 then ((fX9_fails g a0 ((-6)) M).bind fun M_6 => fX9_readsStack_19 g a0 x_3 M_6) else (fX9_readsStack_19 g a0 x_3 M) else none
set_option maxHeartbeats 4000000 in
set_option maxRecDepth 100000 in
theorem mX9_readsStack {w : gW} {n : Nat} {Rm : Nat → Nat → Nat} {g : Nat → Nat} (hLC : gLC g n Rm) {l : Launch} (hl9 : l.stackTraces = false) {a0 : Nat} {M : gMem} {r : gMem} (hg0 : g a0 = 9) (hf : fX9_readsStack g a0 M = some r) : gMT w n Rm l yX9_readsStack cX9_readsStack 7 none 9 272 0 0 [.ref (w.1 + a0)] M (.inr none) r True := by
  unfold fX9_readsStack at hf
  refine gMT.of hl9 (by decide +kernel) ((Nat.le_of_ble_eq_true rfl)) ?_
  intro p e s m below meth c hM hH ls hl
  have hM : gMC w p l s m ([.ref (w.1 + a0)] : List Value).toArray meth c cX9_readsStack 7 RX9 none := hM
  have hl : lv_has ls 7 [(0, .ref (w.1 + a0))] := hl
  refine lv_aload_n hM.fx.1 hM.fx.2.1 dX9_readsStack_0 rfl (lv_at hl 0 rfl) ?_
  refine r_getR hM.fx hM.kf hH hLC fl_X9_7 hg0 gch_9_0 dX9_readsStack_1 ?_
  refine lv_iconst (v := gi (2)) hM.fx.1 hM.fx.2.1 dX9_readsStack_4 rfl ?_
  obtain ⟨g_1, hf⟩ := gif hf
  refine r_iald hM.fx hM.kf hH (hLC.in (hLC.ch hg0 (by decide) gch_9_0) (by decide)) (⟨by decide, by decide⟩ : gAr 19056 0) (gcR (k := 2) (by decide)) g_1 dX9_readsStack_5 ?_
  have hr_2 := hH.2.2.i (k := (2 : Int).toNat) (hLC.in (hLC.ch hg0 (by decide) gch_9_0) (by decide)).2.2 (glg_a (⟨by decide, by decide⟩ : gAr 19056 0))
  obtain ⟨x_3, ex_3, hf⟩ := gst_s hf
  refine W.eq (g2 := F0 m _ ls (.int (gi x_3) :: _)) (by rw [ex_3]) ?_
  have hx_3 : gRI x_3 := by rw [ex_3]; exact hr_2
  refine lv_istore_n (lv' := [(1, .int (gi x_3)), (0, .ref (w.1 + a0))]) hM.fx.1 hM.fx.2.1 dX9_readsStack_6 rfl hl (by decide) rfl (fun ls hl => ?_)
  refine lv_iload_n hM.fx.1 hM.fx.2.1 dX9_readsStack_7 rfl (lv_at hl 0 rfl) ?_
  refine lv_bipush (v := gi (12)) hM.fx.1 hM.fx.2.1 dX9_readsStack_8 (by decide) ?_
  refine r_icmp_ne (tgt := 19) hM.fx hx_3 (gcR (k := 12) (by decide)) dX9_readsStack_10 (by decide) (fun h_4 => ?_) (fun h_4 => ?_)
  · have hf := gneg' h_4 hf
    exact wX9_readsStack_19 hLC hM   _ _ _ _ hg0 hx_3 hf _ _ _ hH (lv_sub hl [1, 0] rfl)
  · have hf := gpos h_4 hf
    refine lv_aload_n hM.fx.1 hM.fx.2.1 dX9_readsStack_13 rfl (lv_at hl 1 rfl) ?_
    refine lv_bipush (v := gi (-6)) hM.fx.1 hM.fx.2.1 dX9_readsStack_14 (by decide) ?_
    obtain ⟨M_6, eM_6, hf⟩ := gbd hf
    refine r_go0 hH rfl (r_runV (As := [.int (gi ((-6)))]) hM hH cv_X9_117 (mX9_fails hLC hM.ns hg0 (gcR (k := -6) (by decide)) eM_6) (hLC.in hg0 (by decide)) (by decide) rfl rfl rfl hl.1 rfl (Nat.le_of_ble_eq_true rfl) ⟨(Nat.le_of_ble_eq_true rfl), (Nat.le_of_ble_eq_true rfl)⟩ ⟨(Nat.le_of_ble_eq_true rfl), (Nat.le_of_ble_eq_true rfl)⟩ dX9_readsStack_16) (fun hp_5 H locs hH => ?_)
    exact wX9_readsStack_19 hLC hM   _ _ _ _ hg0 hx_3 hf _ _ _ hH (lv_sub hl [1, 0] rfl)
def fX9_load_169 (g : Nat → Nat)  (a0 : Nat) (M : gMem) : Option (Int × gMem) :=
  if M a0 14 = 0 then ((fX9_keeps g a0 (a0 + 2) M).bind fun M_4 => if (0 : Int) ≤ 1 ∧ (1 : Int) < 1190 then some (M_4 (a0 + 1) (1 : Int).toNat, M_4) else none) else (some (M a0 14, M))
set_option maxHeartbeats 4000000 in
set_option maxRecDepth 100000 in
theorem wX9_load_169 {w : gW} {n : Nat} {Rm : Nat → Nat → Nat} {g : Nat → Nat} (hLC : gLC g n Rm) {p : Program} {l : Launch} {e : Env} {s : State} {m : MethodId} {args : Array Value} {below : List Frame} {meth : Method} {c : Code} (hM : gMC w p l s m args meth c cX9_load 1 RX9 (some .int))  : ∀ (a0 : Nat) (M : gMem) (r : (Int × gMem)) (hg0 : g a0 = 9) (hf : fX9_load_169 g a0 M = some r) (H : Heap) (locs : List Loc) (ls : Array Slot) (hH : gH w n Rm M s H locs) (hl : lv_has ls 1 [(0, .ref (w.1 + a0))]), W p l e { frames := 11, cells := 0, slots := 0, locals := 315 } s m args below meth c H locs 0 0 (gQ w n Rm below args s 0 0 (.inr (some (.int (gi r.1)))) r.2 (gRI r.1)) (F0 m 169 ls []) := by
  intro a0 M r hg0 hf H locs ls hH hl
  unfold fX9_load_169 at hf
  refine lv_aload_n hM.fx.1 hM.fx.2.1 dX9_load_169 rfl (lv_at hl 0 rfl) ?_
  refine r_getI hM.fx hM.kf hH fl_X9_101 (hLC.in hg0 (by decide)) dX9_load_170 ?_
  have hr_1 := hH.2.2.i (hLC.in hg0 (by decide)).2.2 (by decide : glg 9 14 = false)
  refine r_if_eq (tgt := 181) hM.fx hr_1 dX9_load_173 (by decide) (fun h_2 => ?_) (fun h_2 => ?_)
  · have hf := gpos h_2 hf
    refine lv_aload_n hM.fx.1 hM.fx.2.1 dX9_load_181 rfl (lv_at hl 0 rfl) ?_
    refine lv_aload_n hM.fx.1 hM.fx.2.1 dX9_load_182 rfl (lv_at hl 0 rfl) ?_
    refine r_getR hM.fx hM.kf hH hLC fl_X9_13 hg0 gch_9_1 dX9_load_183 ?_
    obtain ⟨M_4, eM_4, hf⟩ := gbd hf
    refine r_go0 hH rfl (r_runV (As := [.ref (w.1 + (a0 + 2))]) hM hH cv_X9_60 (mX9_keeps hLC hM.ns hg0 (by rw [(hLC.ch hg0 (by decide) gch_9_1)]; exact (⟨by decide, by decide⟩ : gAr 19056 0)) eM_4) (hLC.in hg0 (by decide)) (by decide) rfl rfl rfl hl.1 rfl (Nat.le_of_ble_eq_true rfl) ⟨(Nat.le_of_ble_eq_true rfl), (Nat.le_of_ble_eq_true rfl)⟩ ⟨(Nat.le_of_ble_eq_true rfl), (Nat.le_of_ble_eq_true rfl)⟩ dX9_load_186) (fun hp_3 H locs hH => ?_)
    refine lv_aload_n hM.fx.1 hM.fx.2.1 dX9_load_189 rfl (lv_at hl 0 rfl) ?_
    refine r_getR hM.fx hM.kf hH hLC fl_X9_7 hg0 gch_9_0 dX9_load_190 ?_
    refine lv_iconst (v := gi (1)) hM.fx.1 hM.fx.2.1 dX9_load_193 rfl ?_
    obtain ⟨g_5, hf⟩ := gif hf
    refine r_iald hM.fx hM.kf hH (hLC.in (hLC.ch hg0 (by decide) gch_9_0) (by decide)) (⟨by decide, by decide⟩ : gAr 19056 0) (gcR (k := 1) (by decide)) g_5 dX9_load_194 ?_
    have hr_6 := hH.2.2.i (k := (1 : Int).toNat) (hLC.in (hLC.ch hg0 (by decide) gch_9_0) (by decide)).2.2 (glg_a (⟨by decide, by decide⟩ : gAr 19056 0))
    obtain rfl := Option.some.inj hf
    exact r_iret hM hH hr_6 ⟨(Nat.le_of_ble_eq_true rfl), (Nat.le_of_ble_eq_true rfl)⟩ dX9_load_195
  · have hf := gneg' h_2 hf
    refine lv_aload_n hM.fx.1 hM.fx.2.1 dX9_load_176 rfl (lv_at hl 0 rfl) ?_
    refine r_getI hM.fx hM.kf hH fl_X9_101 (hLC.in hg0 (by decide)) dX9_load_177 ?_
    have hr_7 := hH.2.2.i (hLC.in hg0 (by decide)).2.2 (by decide : glg 9 14 = false)
    obtain rfl := Option.some.inj hf
    exact r_iret hM hH hr_7 ⟨(Nat.le_of_ble_eq_true rfl), (Nat.le_of_ble_eq_true rfl)⟩ dX9_load_180
def fX9_load_141 (g : Nat → Nat)  (a0 : Nat) (as0 : Nat) (xs1 : Int) (M : gMem) : Option (Int × gMem) :=
  gst (gup M as0 16 xs1) fun M_1 => gst (gup M_1 a0 9 0) fun M_2 => if M_2 a0 14 = 0 then (fX9_load_169 g a0 M_2) else ((fX9_copies g (a0 + 1) 0 (a0 + 2) 0 M_2).bind fun M_6 => fX9_load_169 g a0 M_6)
set_option maxHeartbeats 4000000 in
set_option maxRecDepth 100000 in
theorem wX9_load_141 {w : gW} {n : Nat} {Rm : Nat → Nat → Nat} {g : Nat → Nat} (hLC : gLC g n Rm) {p : Program} {l : Launch} {e : Env} {s : State} {m : MethodId} {args : Array Value} {below : List Frame} {meth : Method} {c : Code} (hM : gMC w p l s m args meth c cX9_load 1 RX9 (some .int))  : ∀ (a0 : Nat) (as0 : Nat) (xs1 : Int) (M : gMem) (r : (Int × gMem)) (hg0 : g a0 = 9) (hgs0 : g as0 = 9) (hrs1 : gRI xs1) (hf : fX9_load_141 g a0 as0 xs1 M = some r) (H : Heap) (locs : List Loc) (ls : Array Slot) (hH : gH w n Rm M s H locs) (hl : lv_has ls 1 [(0, .ref (w.1 + a0))]), W p l e { frames := 11, cells := 0, slots := 0, locals := 315 } s m args below meth c H locs 0 0 (gQ w n Rm below args s 0 0 (.inr (some (.int (gi r.1)))) r.2 (gRI r.1)) (F0 m 141 ls [.int (gi xs1), .ref (w.1 + as0)]) := by
  intro a0 as0 xs1 M r hg0 hgs0 hrs1 hf H locs ls hH hl
  unfold fX9_load_141 at hf
  refine r_putI hM.fx hM.kf hH fp_X9_32 (hLC.in hgs0 (by decide)) hrs1 dX9_load_141 (fun H locs hH => ?_)
  obtain ⟨M_1, eM_1, hf⟩ := gst_s hf
  rw [← eM_1] at hH
  refine lv_aload_n hM.fx.1 hM.fx.2.1 dX9_load_144 rfl (lv_at hl 0 rfl) ?_
  refine lv_iconst (v := gi (0)) hM.fx.1 hM.fx.2.1 dX9_load_145 rfl ?_
  refine r_putI hM.fx hM.kf hH fp_X9_68 (hLC.in hg0 (by decide)) (gcR (k := 0) (by decide)) dX9_load_146 (fun H locs hH => ?_)
  obtain ⟨M_2, eM_2, hf⟩ := gst_s hf
  rw [← eM_2] at hH
  refine lv_aload_n hM.fx.1 hM.fx.2.1 dX9_load_149 rfl (lv_at hl 0 rfl) ?_
  refine r_getI hM.fx hM.kf hH fl_X9_101 (hLC.in hg0 (by decide)) dX9_load_150 ?_
  have hr_3 := hH.2.2.i (hLC.in hg0 (by decide)).2.2 (by decide : glg 9 14 = false)
  refine r_if_eq (tgt := 169) hM.fx hr_3 dX9_load_153 (by decide) (fun h_4 => ?_) (fun h_4 => ?_)
  · have hf := gpos h_4 hf
    exact wX9_load_169 hLC hM   _ _ _ hg0 hf _ _ _ hH hl
  · have hf := gneg' h_4 hf
    refine lv_aload_n hM.fx.1 hM.fx.2.1 dX9_load_156 rfl (lv_at hl 0 rfl) ?_
    refine r_getR hM.fx hM.kf hH hLC fl_X9_7 hg0 gch_9_0 dX9_load_157 ?_
    refine lv_iconst (v := gi (0)) hM.fx.1 hM.fx.2.1 dX9_load_160 rfl ?_
    refine lv_aload_n hM.fx.1 hM.fx.2.1 dX9_load_161 rfl (lv_at hl 0 rfl) ?_
    refine r_getR hM.fx hM.kf hH hLC fl_X9_13 hg0 gch_9_1 dX9_load_162 ?_
    refine lv_iconst (v := gi (0)) hM.fx.1 hM.fx.2.1 dX9_load_165 rfl ?_
    obtain ⟨M_6, eM_6, hf⟩ := gbd hf
    refine r_go0 hH rfl (r_runS (As := [.ref (w.1 + (a0 + 1)), .int (gi 0), .ref (w.1 + (a0 + 2)), .int (gi 0)]) hM hH cs_X9_52 (mX9_copies hLC hM.ns (by rw [(hLC.ch hg0 (by decide) gch_9_0)]; exact (⟨by decide, by decide⟩ : gAr 19056 0)) (gcR (k := 0) (by decide)) (by rw [(hLC.ch hg0 (by decide) gch_9_1)]; exact (⟨by decide, by decide⟩ : gAr 19056 0)) (gcR (k := 0) (by decide)) eM_6) rfl hl.1 rfl (Nat.le_of_ble_eq_true rfl) ⟨(Nat.le_of_ble_eq_true rfl), (Nat.le_of_ble_eq_true rfl)⟩ ⟨(Nat.le_of_ble_eq_true rfl), (Nat.le_of_ble_eq_true rfl)⟩ dX9_load_166) (fun hp_5 H locs hH => ?_)
    exact wX9_load_169 hLC hM   _ _ _ hg0 hf _ _ _ hH hl
def fX9_load_125 (g : Nat → Nat)  (a0 : Nat) (M : gMem) : Option (Int × gMem) :=
  if M a0 14 = 0 then (fX9_load_141 g a0 a0 ((-1)) M) else (fX9_load_141 g a0 a0 (M a0 15) M)
set_option maxHeartbeats 4000000 in
set_option maxRecDepth 100000 in
theorem wX9_load_125 {w : gW} {n : Nat} {Rm : Nat → Nat → Nat} {g : Nat → Nat} (hLC : gLC g n Rm) {p : Program} {l : Launch} {e : Env} {s : State} {m : MethodId} {args : Array Value} {below : List Frame} {meth : Method} {c : Code} (hM : gMC w p l s m args meth c cX9_load 1 RX9 (some .int))  : ∀ (a0 : Nat) (M : gMem) (r : (Int × gMem)) (hg0 : g a0 = 9) (hf : fX9_load_125 g a0 M = some r) (H : Heap) (locs : List Loc) (ls : Array Slot) (hH : gH w n Rm M s H locs) (hl : lv_has ls 1 [(0, .ref (w.1 + a0))]), W p l e { frames := 11, cells := 0, slots := 0, locals := 315 } s m args below meth c H locs 0 0 (gQ w n Rm below args s 0 0 (.inr (some (.int (gi r.1)))) r.2 (gRI r.1)) (F0 m 125 ls []) := by
  intro a0 M r hg0 hf H locs ls hH hl
  unfold fX9_load_125 at hf
  refine lv_aload_n hM.fx.1 hM.fx.2.1 dX9_load_125 rfl (lv_at hl 0 rfl) ?_
  refine lv_aload_n hM.fx.1 hM.fx.2.1 dX9_load_126 rfl (lv_at hl 0 rfl) ?_
  refine r_getI hM.fx hM.kf hH fl_X9_101 (hLC.in hg0 (by decide)) dX9_load_127 ?_
  have hr_1 := hH.2.2.i (hLC.in hg0 (by decide)).2.2 (by decide : glg 9 14 = false)
  refine r_if_ne (tgt := 137) hM.fx hr_1 dX9_load_130 (by decide) (fun h_2 => ?_) (fun h_2 => ?_)
  · have hf := gneg' h_2 hf
    refine lv_aload_n hM.fx.1 hM.fx.2.1 dX9_load_137 rfl (lv_at hl 0 rfl) ?_
    refine r_getI hM.fx hM.kf hH fl_X9_114 (hLC.in hg0 (by decide)) dX9_load_138 ?_
    have hr_3 := hH.2.2.i (hLC.in hg0 (by decide)).2.2 (by decide : glg 9 15 = false)
    exact wX9_load_141 hLC hM   _ _ _ _ _ hg0 hg0 hr_3 hf _ _ _ hH hl
  · have hf := gpos h_2 hf
    refine lv_iconst (v := gi (-1)) hM.fx.1 hM.fx.2.1 dX9_load_133 rfl ?_
    refine lv_goto (tgt := 141) hM.fx.1 hM.fx.2.1 dX9_load_134 (by decide) ?_
    exact wX9_load_141 hLC hM   _ _ _ _ _ hg0 hg0 (gcR (k := -1) (by decide)) hf _ _ _ hH hl
def fX9_load_88 (g : Nat → Nat)  : Nat → Nat → gMem → Option (Int × gMem)
  | 0, _, _ => none
  | fu + 1, a0, M => (fX9_isWord g a0 58 M).bind fun x_2 => if x_2 = 0 then (if M a0 14 = 0 then (if M a0 12 = 3 then (fX9_load_125 g a0 M) else ((fX9_fails g a0 ((-2)) M).bind fun M_9 => fX9_load_125 g a0 M_9)) else (fX9_load_125 g a0 M)) else ((fX9_readsStack g a0 M).bind fun M_11 => fX9_load_88 g fu a0 M_11)
set_option maxHeartbeats 4000000 in
set_option maxRecDepth 100000 in
theorem wX9_load_88 {w : gW} {n : Nat} {Rm : Nat → Nat → Nat} {g : Nat → Nat} (hLC : gLC g n Rm) {p : Program} {l : Launch} {e : Env} {s : State} {m : MethodId} {args : Array Value} {below : List Frame} {meth : Method} {c : Code} (hM : gMC w p l s m args meth c cX9_load 1 RX9 (some .int))  : ∀ (fu : Nat), ∀ (a0 : Nat) (M : gMem) (r : (Int × gMem)) (hg0 : g a0 = 9) (hf : fX9_load_88 g fu a0 M = some r) (H : Heap) (locs : List Loc) (ls : Array Slot) (hH : gH w n Rm M s H locs) (hl : lv_has ls 1 [(0, .ref (w.1 + a0))]), W p l e { frames := 11, cells := 0, slots := 0, locals := 315 } s m args below meth c H locs 0 0 (gQ w n Rm below args s 0 0 (.inr (some (.int (gi r.1)))) r.2 (gRI r.1)) (F0 m 88 ls []) := by
  intro fu
  induction fu with
  | zero =>
    intro a0 M r hg0 hf H locs ls hH hl
    exact absurd hf (by simp [fX9_load_88])
  | succ fu ih =>
    intro a0 M r hg0 hf H locs ls hH hl
    unfold fX9_load_88 at hf
    refine lv_aload_n hM.fx.1 hM.fx.2.1 dX9_load_88 rfl (lv_at hl 0 rfl) ?_
    refine r_ldcS (tx := "stack") hM.fx hM.kf 58 rfl dX9_load_89 ?_
    obtain ⟨x_2, ex_2, hf⟩ := gbd hf
    refine r_go1 hH rfl (r_runV (As := [gsR w 58]) hM hH cv_X9_170 (mX9_isWord hLC hM.ns hg0 (by decide : gtx 58 ≠ []) ex_2) (hLC.in hg0 (by decide)) (by decide) rfl rfl rfl hl.1 rfl (Nat.le_of_ble_eq_true rfl) ⟨(Nat.le_of_ble_eq_true rfl), (Nat.le_of_ble_eq_true rfl)⟩ ⟨(Nat.le_of_ble_eq_true rfl), (Nat.le_of_ble_eq_true rfl)⟩ dX9_load_91) (fun hp_1 H locs hH => ?_)
    refine r_if_eq (tgt := 104) hM.fx (gz_r hp_1) dX9_load_94 (by decide) (fun h_3 => ?_) (fun h_3 => ?_)
    · have hf := gpos h_3 hf
      refine lv_aload_n hM.fx.1 hM.fx.2.1 dX9_load_104 rfl (lv_at hl 0 rfl) ?_
      refine r_getI hM.fx hM.kf hH fl_X9_101 (hLC.in hg0 (by decide)) dX9_load_105 ?_
      have hr_4 := hH.2.2.i (hLC.in hg0 (by decide)).2.2 (by decide : glg 9 14 = false)
      refine r_if_ne (tgt := 125) hM.fx hr_4 dX9_load_108 (by decide) (fun h_5 => ?_) (fun h_5 => ?_)
      · have hf := gneg' h_5 hf
        exact wX9_load_125 hLC hM   _ _ _ hg0 hf _ _ _ hH hl
      · have hf := gpos h_5 hf
        refine lv_aload_n hM.fx.1 hM.fx.2.1 dX9_load_111 rfl (lv_at hl 0 rfl) ?_
        refine r_getI hM.fx hM.kf hH fl_X9_84 (hLC.in hg0 (by decide)) dX9_load_112 ?_
        have hr_6 := hH.2.2.i (hLC.in hg0 (by decide)).2.2 (by decide : glg 9 12 = false)
        refine lv_iconst (v := gi (3)) hM.fx.1 hM.fx.2.1 dX9_load_115 rfl ?_
        refine r_icmp_eq (tgt := 125) hM.fx hr_6 (gcR (k := 3) (by decide)) dX9_load_116 (by decide) (fun h_7 => ?_) (fun h_7 => ?_)
        · have hf := gpos h_7 hf
          exact wX9_load_125 hLC hM   _ _ _ hg0 hf _ _ _ hH hl
        · have hf := gneg' h_7 hf
          refine lv_aload_n hM.fx.1 hM.fx.2.1 dX9_load_119 rfl (lv_at hl 0 rfl) ?_
          refine lv_bipush (v := gi (-2)) hM.fx.1 hM.fx.2.1 dX9_load_120 (by decide) ?_
          obtain ⟨M_9, eM_9, hf⟩ := gbd hf
          refine r_go0 hH rfl (r_runV (As := [.int (gi ((-2)))]) hM hH cv_X9_117 (mX9_fails hLC hM.ns hg0 (gcR (k := -2) (by decide)) eM_9) (hLC.in hg0 (by decide)) (by decide) rfl rfl rfl hl.1 rfl (Nat.le_of_ble_eq_true rfl) ⟨(Nat.le_of_ble_eq_true rfl), (Nat.le_of_ble_eq_true rfl)⟩ ⟨(Nat.le_of_ble_eq_true rfl), (Nat.le_of_ble_eq_true rfl)⟩ dX9_load_122) (fun hp_8 H locs hH => ?_)
          exact wX9_load_125 hLC hM   _ _ _ hg0 hf _ _ _ hH hl
    · have hf := gneg' h_3 hf
      refine lv_aload_n hM.fx.1 hM.fx.2.1 dX9_load_97 rfl (lv_at hl 0 rfl) ?_
      obtain ⟨M_11, eM_11, hf⟩ := gbd hf
      refine r_go0 hH rfl (r_runV (As := []) hM hH cv_X9_229 (mX9_readsStack hLC hM.ns hg0 eM_11) (hLC.in hg0 (by decide)) (by decide) rfl rfl rfl hl.1 rfl (Nat.le_of_ble_eq_true rfl) ⟨(Nat.le_of_ble_eq_true rfl), (Nat.le_of_ble_eq_true rfl)⟩ ⟨(Nat.le_of_ble_eq_true rfl), (Nat.le_of_ble_eq_true rfl)⟩ dX9_load_98) (fun hp_10 H locs hH => ?_)
      refine lv_goto (tgt := 88) hM.fx.1 hM.fx.2.1 dX9_load_101 (by decide) ?_
      exact ih _ _ _ hg0 hf _ _ _ hH hl
def fX9_load_72 (g : Nat → Nat)  : Nat → Nat → gMem → Option (Int × gMem)
  | 0, _, _ => none
  | fu + 1, a0, M => (fX9_isWord g a0 41 M).bind fun x_2 => if x_2 = 0 then (fX9_load_88 g gF a0 M) else ((fX9_readsProcess g a0 M).bind fun M_5 => fX9_load_72 g fu a0 M_5)
set_option maxHeartbeats 4000000 in
set_option maxRecDepth 100000 in
theorem wX9_load_72 {w : gW} {n : Nat} {Rm : Nat → Nat → Nat} {g : Nat → Nat} (hLC : gLC g n Rm) {p : Program} {l : Launch} {e : Env} {s : State} {m : MethodId} {args : Array Value} {below : List Frame} {meth : Method} {c : Code} (hM : gMC w p l s m args meth c cX9_load 1 RX9 (some .int))  : ∀ (fu : Nat), ∀ (a0 : Nat) (M : gMem) (r : (Int × gMem)) (hg0 : g a0 = 9) (hf : fX9_load_72 g fu a0 M = some r) (H : Heap) (locs : List Loc) (ls : Array Slot) (hH : gH w n Rm M s H locs) (hl : lv_has ls 1 [(0, .ref (w.1 + a0))]), W p l e { frames := 11, cells := 0, slots := 0, locals := 315 } s m args below meth c H locs 0 0 (gQ w n Rm below args s 0 0 (.inr (some (.int (gi r.1)))) r.2 (gRI r.1)) (F0 m 72 ls []) := by
  intro fu
  induction fu with
  | zero =>
    intro a0 M r hg0 hf H locs ls hH hl
    exact absurd hf (by simp [fX9_load_72])
  | succ fu ih =>
    intro a0 M r hg0 hf H locs ls hH hl
    unfold fX9_load_72 at hf
    refine lv_aload_n hM.fx.1 hM.fx.2.1 dX9_load_72 rfl (lv_at hl 0 rfl) ?_
    refine r_ldcS (tx := "process") hM.fx hM.kf 41 rfl dX9_load_73 ?_
    obtain ⟨x_2, ex_2, hf⟩ := gbd hf
    refine r_go1 hH rfl (r_runV (As := [gsR w 41]) hM hH cv_X9_170 (mX9_isWord hLC hM.ns hg0 (by decide : gtx 41 ≠ []) ex_2) (hLC.in hg0 (by decide)) (by decide) rfl rfl rfl hl.1 rfl (Nat.le_of_ble_eq_true rfl) ⟨(Nat.le_of_ble_eq_true rfl), (Nat.le_of_ble_eq_true rfl)⟩ ⟨(Nat.le_of_ble_eq_true rfl), (Nat.le_of_ble_eq_true rfl)⟩ dX9_load_75) (fun hp_1 H locs hH => ?_)
    refine r_if_eq (tgt := 88) hM.fx (gz_r hp_1) dX9_load_78 (by decide) (fun h_3 => ?_) (fun h_3 => ?_)
    · have hf := gpos h_3 hf
      exact wX9_load_88 hLC hM  gF _ _ _ hg0 hf _ _ _ hH hl
    · have hf := gneg' h_3 hf
      refine lv_aload_n hM.fx.1 hM.fx.2.1 dX9_load_81 rfl (lv_at hl 0 rfl) ?_
      obtain ⟨M_5, eM_5, hf⟩ := gbd hf
      refine r_go0 hH rfl (r_runV (As := []) hM hH cv_X9_224 (mX9_readsProcess hLC hM.ns hg0 eM_5) (hLC.in hg0 (by decide)) (by decide) rfl rfl rfl hl.1 rfl (Nat.le_of_ble_eq_true rfl) ⟨(Nat.le_of_ble_eq_true rfl), (Nat.le_of_ble_eq_true rfl)⟩ ⟨(Nat.le_of_ble_eq_true rfl), (Nat.le_of_ble_eq_true rfl)⟩ dX9_load_82) (fun hp_4 H locs hH => ?_)
      refine lv_goto (tgt := 72) hM.fx.1 hM.fx.2.1 dX9_load_85 (by decide) ?_
      exact ih _ _ _ hg0 hf _ _ _ hH hl
def fX9_load (g : Nat → Nat) (a0 : Nat) (M : gMem) : Option (Int × gMem) :=
  gst (gup M a0 7 0) fun M_1 => gst (gup M_1 a0 11 0) fun M_2 => gst (gup M_2 a0 14 0) fun M_3 => (fX9_copies g (a0 + 2) 0 (a0 + 1) 0 M_3).bind fun M_5 => (fX9_begins g a0 M_5).bind fun M_7 => (fX9_next g a0 M_7).bind fun M_9 => (fX9_isWord g a0 40 M_9).bind fun x_11 => (fX9_must g a0 x_11 M_9).bind fun M_13 => (fX9_takes g a0 1 4 M_13).bind fun q_15 => if (0 : Int) ≤ 0 ∧ (0 : Int) < 1190 then gst (gup q_15.2 (a0 + 1) (0 : Int).toNat q_15.1) fun M_17 => (fX9_isSign g a0 59 M_17).bind fun x_19 => (fX9_must g a0 x_19 M_17).bind fun M_21 => (fX9_readsProcess g a0 M_21).bind fun M_23 => fX9_load_72 g gF a0 M_23 else none
set_option maxHeartbeats 4000000 in
set_option maxRecDepth 100000 in
theorem mX9_load {w : gW} {n : Nat} {Rm : Nat → Nat → Nat} {g : Nat → Nat} (hLC : gLC g n Rm) {l : Launch} (hl9 : l.stackTraces = false) {a0 : Nat} {M : gMem} {r : (Int × gMem)} (hg0 : g a0 = 9) (hf : fX9_load g a0 M = some r) : gMT w n Rm l yX9_load cX9_load 1 (some .int) 11 315 0 0 [.ref (w.1 + a0)] M (.inr (some (.int (gi r.1)))) r.2 (gRI r.1) := by
  unfold fX9_load at hf
  refine gMT.of hl9 (by decide +kernel) ((Nat.le_of_ble_eq_true rfl)) ?_
  intro p e s m below meth c hM hH ls hl
  have hM : gMC w p l s m ([.ref (w.1 + a0)] : List Value).toArray meth c cX9_load 1 RX9 (some .int) := hM
  have hl : lv_has ls 1 [(0, .ref (w.1 + a0))] := hl
  refine lv_aload_n hM.fx.1 hM.fx.2.1 dX9_load_0 rfl (lv_at hl 0 rfl) ?_
  refine lv_iconst (v := gi (0)) hM.fx.1 hM.fx.2.1 dX9_load_1 rfl ?_
  refine r_putI hM.fx hM.kf hH fp_X9_46 (hLC.in hg0 (by decide)) (gcR (k := 0) (by decide)) dX9_load_2 (fun H locs hH => ?_)
  obtain ⟨M_1, eM_1, hf⟩ := gst_s hf
  rw [← eM_1] at hH
  refine lv_aload_n hM.fx.1 hM.fx.2.1 dX9_load_5 rfl (lv_at hl 0 rfl) ?_
  refine lv_iconst (v := gi (0)) hM.fx.1 hM.fx.2.1 dX9_load_6 rfl ?_
  refine r_putI hM.fx hM.kf hH fp_X9_75 (hLC.in hg0 (by decide)) (gcR (k := 0) (by decide)) dX9_load_7 (fun H locs hH => ?_)
  obtain ⟨M_2, eM_2, hf⟩ := gst_s hf
  rw [← eM_2] at hH
  refine lv_aload_n hM.fx.1 hM.fx.2.1 dX9_load_10 rfl (lv_at hl 0 rfl) ?_
  refine lv_iconst (v := gi (0)) hM.fx.1 hM.fx.2.1 dX9_load_11 rfl ?_
  refine r_putI hM.fx hM.kf hH fp_X9_101 (hLC.in hg0 (by decide)) (gcR (k := 0) (by decide)) dX9_load_12 (fun H locs hH => ?_)
  obtain ⟨M_3, eM_3, hf⟩ := gst_s hf
  rw [← eM_3] at hH
  refine lv_aload_n hM.fx.1 hM.fx.2.1 dX9_load_15 rfl (lv_at hl 0 rfl) ?_
  refine r_getR hM.fx hM.kf hH hLC fl_X9_13 hg0 gch_9_1 dX9_load_16 ?_
  refine lv_iconst (v := gi (0)) hM.fx.1 hM.fx.2.1 dX9_load_19 rfl ?_
  refine lv_aload_n hM.fx.1 hM.fx.2.1 dX9_load_20 rfl (lv_at hl 0 rfl) ?_
  refine r_getR hM.fx hM.kf hH hLC fl_X9_7 hg0 gch_9_0 dX9_load_21 ?_
  refine lv_iconst (v := gi (0)) hM.fx.1 hM.fx.2.1 dX9_load_24 rfl ?_
  obtain ⟨M_5, eM_5, hf⟩ := gbd hf
  refine r_go0 hH rfl (r_runS (As := [.ref (w.1 + (a0 + 2)), .int (gi 0), .ref (w.1 + (a0 + 1)), .int (gi 0)]) hM hH cs_X9_52 (mX9_copies hLC hM.ns (by rw [(hLC.ch hg0 (by decide) gch_9_1)]; exact (⟨by decide, by decide⟩ : gAr 19056 0)) (gcR (k := 0) (by decide)) (by rw [(hLC.ch hg0 (by decide) gch_9_0)]; exact (⟨by decide, by decide⟩ : gAr 19056 0)) (gcR (k := 0) (by decide)) eM_5) rfl hl.1 rfl (Nat.le_of_ble_eq_true rfl) ⟨(Nat.le_of_ble_eq_true rfl), (Nat.le_of_ble_eq_true rfl)⟩ ⟨(Nat.le_of_ble_eq_true rfl), (Nat.le_of_ble_eq_true rfl)⟩ dX9_load_25) (fun hp_4 H locs hH => ?_)
  refine lv_aload_n hM.fx.1 hM.fx.2.1 dX9_load_28 rfl (lv_at hl 0 rfl) ?_
  obtain ⟨M_7, eM_7, hf⟩ := gbd hf
  refine r_go0 hH rfl (r_runV (As := []) hM hH cv_X9_39 (mX9_begins hLC hM.ns hg0 eM_7) (hLC.in hg0 (by decide)) (by decide) rfl rfl rfl hl.1 rfl (Nat.le_of_ble_eq_true rfl) ⟨(Nat.le_of_ble_eq_true rfl), (Nat.le_of_ble_eq_true rfl)⟩ ⟨(Nat.le_of_ble_eq_true rfl), (Nat.le_of_ble_eq_true rfl)⟩ dX9_load_29) (fun hp_6 H locs hH => ?_)
  refine lv_aload_n hM.fx.1 hM.fx.2.1 dX9_load_32 rfl (lv_at hl 0 rfl) ?_
  obtain ⟨M_9, eM_9, hf⟩ := gbd hf
  refine r_go0 hH rfl (r_runV (As := []) hM hH cv_X9_121 (mX9_next hLC hM.ns hg0 eM_9) (hLC.in hg0 (by decide)) (by decide) rfl rfl rfl hl.1 rfl (Nat.le_of_ble_eq_true rfl) ⟨(Nat.le_of_ble_eq_true rfl), (Nat.le_of_ble_eq_true rfl)⟩ ⟨(Nat.le_of_ble_eq_true rfl), (Nat.le_of_ble_eq_true rfl)⟩ dX9_load_33) (fun hp_8 H locs hH => ?_)
  refine lv_aload_n hM.fx.1 hM.fx.2.1 dX9_load_36 rfl (lv_at hl 0 rfl) ?_
  refine lv_aload_n hM.fx.1 hM.fx.2.1 dX9_load_37 rfl (lv_at hl 0 rfl) ?_
  refine r_ldcS (tx := "desk") hM.fx hM.kf 40 rfl dX9_load_38 ?_
  obtain ⟨x_11, ex_11, hf⟩ := gbd hf
  refine r_go1 hH rfl (r_runV (As := [gsR w 40]) hM hH cv_X9_170 (mX9_isWord hLC hM.ns hg0 (by decide : gtx 40 ≠ []) ex_11) (hLC.in hg0 (by decide)) (by decide) rfl rfl rfl hl.1 rfl (Nat.le_of_ble_eq_true rfl) ⟨(Nat.le_of_ble_eq_true rfl), (Nat.le_of_ble_eq_true rfl)⟩ ⟨(Nat.le_of_ble_eq_true rfl), (Nat.le_of_ble_eq_true rfl)⟩ dX9_load_40) (fun hp_10 H locs hH => ?_)
  obtain ⟨M_13, eM_13, hf⟩ := gbd hf
  refine r_go0 hH rfl (r_runV (As := [.int (gi x_11)]) hM hH cv_X9_174 (mX9_must hLC hM.ns hg0 (gz_r hp_10) eM_13) (hLC.in hg0 (by decide)) (by decide) rfl rfl rfl hl.1 rfl (Nat.le_of_ble_eq_true rfl) ⟨(Nat.le_of_ble_eq_true rfl), (Nat.le_of_ble_eq_true rfl)⟩ ⟨(Nat.le_of_ble_eq_true rfl), (Nat.le_of_ble_eq_true rfl)⟩ dX9_load_43) (fun hp_12 H locs hH => ?_)
  refine lv_aload_n hM.fx.1 hM.fx.2.1 dX9_load_46 rfl (lv_at hl 0 rfl) ?_
  refine r_getR hM.fx hM.kf hH hLC fl_X9_7 hg0 gch_9_0 dX9_load_47 ?_
  refine lv_iconst (v := gi (0)) hM.fx.1 hM.fx.2.1 dX9_load_50 rfl ?_
  refine lv_aload_n hM.fx.1 hM.fx.2.1 dX9_load_51 rfl (lv_at hl 0 rfl) ?_
  refine lv_iconst (v := gi (1)) hM.fx.1 hM.fx.2.1 dX9_load_52 rfl ?_
  refine lv_iconst (v := gi (4)) hM.fx.1 hM.fx.2.1 dX9_load_53 rfl ?_
  obtain ⟨q_15, eq_15, hf⟩ := gbd hf
  refine r_go1 hH rfl (r_runV (As := [.int (gi 1), .int (gi 4)]) hM hH cv_X9_132 (mX9_takes hLC hM.ns hg0 (gcR (k := 1) (by decide)) (gcR (k := 4) (by decide)) eq_15) (hLC.in hg0 (by decide)) (by decide) rfl rfl rfl hl.1 rfl (Nat.le_of_ble_eq_true rfl) ⟨(Nat.le_of_ble_eq_true rfl), (Nat.le_of_ble_eq_true rfl)⟩ ⟨(Nat.le_of_ble_eq_true rfl), (Nat.le_of_ble_eq_true rfl)⟩ dX9_load_54) (fun hp_14 H locs hH => ?_)
  obtain ⟨g_16, hf⟩ := gif hf
  refine r_iast hM.fx hM.kf hH (hLC.in (hLC.ch hg0 (by decide) gch_9_0) (by decide)) (⟨by decide, by decide⟩ : gAr 19056 0) (gcR (k := 0) (by decide)) g_16 hp_14 dX9_load_57 (fun H locs hH => ?_)
  obtain ⟨M_17, eM_17, hf⟩ := gst_s hf
  rw [← eM_17] at hH
  refine lv_aload_n hM.fx.1 hM.fx.2.1 dX9_load_58 rfl (lv_at hl 0 rfl) ?_
  refine lv_aload_n hM.fx.1 hM.fx.2.1 dX9_load_59 rfl (lv_at hl 0 rfl) ?_
  refine lv_bipush (v := gi (59)) hM.fx.1 hM.fx.2.1 dX9_load_60 (by decide) ?_
  obtain ⟨x_19, ex_19, hf⟩ := gbd hf
  refine r_go1 hH rfl (r_runV (As := [.int (gi 59)]) hM hH cv_X9_127 (mX9_isSign hLC hM.ns hg0 (gcR (k := 59) (by decide)) ex_19) (hLC.in hg0 (by decide)) (by decide) rfl rfl rfl hl.1 rfl (Nat.le_of_ble_eq_true rfl) ⟨(Nat.le_of_ble_eq_true rfl), (Nat.le_of_ble_eq_true rfl)⟩ ⟨(Nat.le_of_ble_eq_true rfl), (Nat.le_of_ble_eq_true rfl)⟩ dX9_load_62) (fun hp_18 H locs hH => ?_)
  obtain ⟨M_21, eM_21, hf⟩ := gbd hf
  refine r_go0 hH rfl (r_runV (As := [.int (gi x_19)]) hM hH cv_X9_174 (mX9_must hLC hM.ns hg0 (gz_r hp_18) eM_21) (hLC.in hg0 (by decide)) (by decide) rfl rfl rfl hl.1 rfl (Nat.le_of_ble_eq_true rfl) ⟨(Nat.le_of_ble_eq_true rfl), (Nat.le_of_ble_eq_true rfl)⟩ ⟨(Nat.le_of_ble_eq_true rfl), (Nat.le_of_ble_eq_true rfl)⟩ dX9_load_65) (fun hp_20 H locs hH => ?_)
  refine lv_aload_n hM.fx.1 hM.fx.2.1 dX9_load_68 rfl (lv_at hl 0 rfl) ?_
  obtain ⟨M_23, eM_23, hf⟩ := gbd hf
  refine r_go0 hH rfl (r_runV (As := []) hM hH cv_X9_224 (mX9_readsProcess hLC hM.ns hg0 eM_23) (hLC.in hg0 (by decide)) (by decide) rfl rfl rfl hl.1 rfl (Nat.le_of_ble_eq_true rfl) ⟨(Nat.le_of_ble_eq_true rfl), (Nat.le_of_ble_eq_true rfl)⟩ ⟨(Nat.le_of_ble_eq_true rfl), (Nat.le_of_ble_eq_true rfl)⟩ dX9_load_69) (fun hp_22 H locs hH => ?_)
  exact wX9_load_72 hLC hM  gF _ _ _ hg0 hf _ _ _ hH hl
def fX9_errorPosition (g : Nat → Nat) (a0 : Nat) (M : gMem) : Option (Int × gMem) :=
  gst (gup M a0 7 0) fun M_1 => some (M_1 a0 16, M_1)
set_option maxHeartbeats 4000000 in
set_option maxRecDepth 100000 in
theorem mX9_errorPosition {w : gW} {n : Nat} {Rm : Nat → Nat → Nat} {g : Nat → Nat} (hLC : gLC g n Rm) {l : Launch} (hl9 : l.stackTraces = false) {a0 : Nat} {M : gMem} {r : (Int × gMem)} (hg0 : g a0 = 9) (hf : fX9_errorPosition g a0 M = some r) : gMT w n Rm l yX9_errorPosition cX9_errorPosition 1 (some .int) 1 60 0 0 [.ref (w.1 + a0)] M (.inr (some (.int (gi r.1)))) r.2 (gRI r.1) := by
  unfold fX9_errorPosition at hf
  refine gMT.of hl9 (by decide +kernel) ((Nat.le_of_ble_eq_true rfl)) ?_
  intro p e s m below meth c hM hH ls hl
  have hM : gMC w p l s m ([.ref (w.1 + a0)] : List Value).toArray meth c cX9_errorPosition 1 RX9 (some .int) := hM
  have hl : lv_has ls 1 [(0, .ref (w.1 + a0))] := hl
  refine lv_aload_n hM.fx.1 hM.fx.2.1 dX9_errorPosition_0 rfl (lv_at hl 0 rfl) ?_
  refine lv_iconst (v := gi (0)) hM.fx.1 hM.fx.2.1 dX9_errorPosition_1 rfl ?_
  refine r_putI hM.fx hM.kf hH fp_X9_46 (hLC.in hg0 (by decide)) (gcR (k := 0) (by decide)) dX9_errorPosition_2 (fun H locs hH => ?_)
  obtain ⟨M_1, eM_1, hf⟩ := gst_s hf
  rw [← eM_1] at hH
  refine lv_aload_n hM.fx.1 hM.fx.2.1 dX9_errorPosition_5 rfl (lv_at hl 0 rfl) ?_
  refine r_getI hM.fx hM.kf hH fl_X9_32 (hLC.in hg0 (by decide)) dX9_errorPosition_6 ?_
  have hr_2 := hH.2.2.i (hLC.in hg0 (by decide)).2.2 (by decide : glg 9 16 = false)
  obtain rfl := Option.some.inj hf
  exact r_iret hM hH hr_2 ⟨(Nat.le_of_ble_eq_true rfl), (Nat.le_of_ble_eq_true rfl)⟩ dX9_errorPosition_9
def fX9_isProcess (g : Nat → Nat) (a0 : Nat) (x1 : Int) (M : gMem) : Option Int :=
  if (0 : Int) ≤ 1 ∧ (1 : Int) < 1190 then (fX9_isIn g x1 0 (gwi (M (a0 + 1) (1 : Int).toNat - 1))).bind fun x_4 => some x_4 else none
set_option maxHeartbeats 4000000 in
set_option maxRecDepth 100000 in
theorem mX9_isProcess {w : gW} {n : Nat} {Rm : Nat → Nat → Nat} {g : Nat → Nat} (hLC : gLC g n Rm) {l : Launch} (hl9 : l.stackTraces = false) {a0 : Nat} {x1 : Int} {M : gMem} {r : Int} (hg0 : g a0 = 9) (hr1 : gRI x1) (hf : fX9_isProcess g a0 x1 M = some r) : gMT w n Rm l yX9_isProcess cX9_isProcess 2 (some .boolean) 2 82 0 0 [.ref (w.1 + a0), .int (gi x1)] M (.inr (some (.int (gi r)))) M (r = 0 ∨ r = 1) := by
  unfold fX9_isProcess at hf
  refine gMT.of hl9 (by decide +kernel) ((Nat.le_of_ble_eq_true rfl)) ?_
  intro p e s m below meth c hM hH ls hl
  have hM : gMC w p l s m ([.ref (w.1 + a0), .int (gi x1)] : List Value).toArray meth c cX9_isProcess 2 RX9 (some .boolean) := hM
  have hl : lv_has ls 2 [(0, .ref (w.1 + a0)), (1, .int (gi x1))] := hl
  refine lv_iload_n hM.fx.1 hM.fx.2.1 dX9_isProcess_0 rfl (lv_at hl 1 rfl) ?_
  refine lv_iconst (v := gi (0)) hM.fx.1 hM.fx.2.1 dX9_isProcess_1 rfl ?_
  refine lv_aload_n hM.fx.1 hM.fx.2.1 dX9_isProcess_2 rfl (lv_at hl 0 rfl) ?_
  refine r_getR hM.fx hM.kf hH hLC fl_X9_7 hg0 gch_9_0 dX9_isProcess_3 ?_
  refine lv_iconst (v := gi (1)) hM.fx.1 hM.fx.2.1 dX9_isProcess_6 rfl ?_
  obtain ⟨g_1, hf⟩ := gif hf
  refine r_iald hM.fx hM.kf hH (hLC.in (hLC.ch hg0 (by decide) gch_9_0) (by decide)) (⟨by decide, by decide⟩ : gAr 19056 0) (gcR (k := 1) (by decide)) g_1 dX9_isProcess_7 ?_
  have hr_2 := hH.2.2.i (k := (1 : Int).toNat) (hLC.in (hLC.ch hg0 (by decide) gch_9_0) (by decide)).2.2 (glg_a (⟨by decide, by decide⟩ : gAr 19056 0))
  refine lv_iconst (v := gi (1)) hM.fx.1 hM.fx.2.1 dX9_isProcess_8 rfl ?_
  refine r_isub hM.fx dX9_isProcess_9 ?_
  obtain ⟨x_4, ex_4, hf⟩ := gbd hf
  refine r_go1 hH rfl (r_runS (As := [.int (gi x1), .int (gi 0), .int (gi (gwi (M (a0 + 1) (1 : Int).toNat - 1)))]) hM hH cs_X9_56 (mX9_isIn hLC hM.ns hr1 (gcR (k := 0) (by decide)) (gwi_r _) ex_4) rfl hl.1 rfl (Nat.le_of_ble_eq_true rfl) ⟨(Nat.le_of_ble_eq_true rfl), (Nat.le_of_ble_eq_true rfl)⟩ ⟨(Nat.le_of_ble_eq_true rfl), (Nat.le_of_ble_eq_true rfl)⟩ dX9_isProcess_10) (fun hp_3 H locs hH => ?_)
  obtain rfl := Option.some.inj hf
  exact r_zret hM hH hp_3 hp_3 ⟨(Nat.le_of_ble_eq_true rfl), (Nat.le_of_ble_eq_true rfl)⟩ dX9_isProcess_13
def fX9_isStack (g : Nat → Nat) (a0 : Nat) (x1 : Int) (M : gMem) : Option Int :=
  if (0 : Int) ≤ 2 ∧ (2 : Int) < 1190 then (fX9_isIn g x1 0 (gwi (M (a0 + 1) (2 : Int).toNat - 1))).bind fun x_4 => some x_4 else none
set_option maxHeartbeats 4000000 in
set_option maxRecDepth 100000 in
theorem mX9_isStack {w : gW} {n : Nat} {Rm : Nat → Nat → Nat} {g : Nat → Nat} (hLC : gLC g n Rm) {l : Launch} (hl9 : l.stackTraces = false) {a0 : Nat} {x1 : Int} {M : gMem} {r : Int} (hg0 : g a0 = 9) (hr1 : gRI x1) (hf : fX9_isStack g a0 x1 M = some r) : gMT w n Rm l yX9_isStack cX9_isStack 2 (some .boolean) 2 82 0 0 [.ref (w.1 + a0), .int (gi x1)] M (.inr (some (.int (gi r)))) M (r = 0 ∨ r = 1) := by
  unfold fX9_isStack at hf
  refine gMT.of hl9 (by decide +kernel) ((Nat.le_of_ble_eq_true rfl)) ?_
  intro p e s m below meth c hM hH ls hl
  have hM : gMC w p l s m ([.ref (w.1 + a0), .int (gi x1)] : List Value).toArray meth c cX9_isStack 2 RX9 (some .boolean) := hM
  have hl : lv_has ls 2 [(0, .ref (w.1 + a0)), (1, .int (gi x1))] := hl
  refine lv_iload_n hM.fx.1 hM.fx.2.1 dX9_isStack_0 rfl (lv_at hl 1 rfl) ?_
  refine lv_iconst (v := gi (0)) hM.fx.1 hM.fx.2.1 dX9_isStack_1 rfl ?_
  refine lv_aload_n hM.fx.1 hM.fx.2.1 dX9_isStack_2 rfl (lv_at hl 0 rfl) ?_
  refine r_getR hM.fx hM.kf hH hLC fl_X9_7 hg0 gch_9_0 dX9_isStack_3 ?_
  refine lv_iconst (v := gi (2)) hM.fx.1 hM.fx.2.1 dX9_isStack_6 rfl ?_
  obtain ⟨g_1, hf⟩ := gif hf
  refine r_iald hM.fx hM.kf hH (hLC.in (hLC.ch hg0 (by decide) gch_9_0) (by decide)) (⟨by decide, by decide⟩ : gAr 19056 0) (gcR (k := 2) (by decide)) g_1 dX9_isStack_7 ?_
  have hr_2 := hH.2.2.i (k := (2 : Int).toNat) (hLC.in (hLC.ch hg0 (by decide) gch_9_0) (by decide)).2.2 (glg_a (⟨by decide, by decide⟩ : gAr 19056 0))
  refine lv_iconst (v := gi (1)) hM.fx.1 hM.fx.2.1 dX9_isStack_8 rfl ?_
  refine r_isub hM.fx dX9_isStack_9 ?_
  obtain ⟨x_4, ex_4, hf⟩ := gbd hf
  refine r_go1 hH rfl (r_runS (As := [.int (gi x1), .int (gi 0), .int (gi (gwi (M (a0 + 1) (2 : Int).toNat - 1)))]) hM hH cs_X9_56 (mX9_isIn hLC hM.ns hr1 (gcR (k := 0) (by decide)) (gwi_r _) ex_4) rfl hl.1 rfl (Nat.le_of_ble_eq_true rfl) ⟨(Nat.le_of_ble_eq_true rfl), (Nat.le_of_ble_eq_true rfl)⟩ ⟨(Nat.le_of_ble_eq_true rfl), (Nat.le_of_ble_eq_true rfl)⟩ dX9_isStack_10) (fun hp_3 H locs hH => ?_)
  obtain rfl := Option.some.inj hf
  exact r_zret hM hH hp_3 hp_3 ⟨(Nat.le_of_ble_eq_true rfl), (Nat.le_of_ble_eq_true rfl)⟩ dX9_isStack_13
def fX9_isSlot (g : Nat → Nat) (a0 : Nat) (x1 : Int) (M : gMem) : Option Int :=
  if (0 : Int) ≤ 0 ∧ (0 : Int) < 1190 then (fX9_isIn g x1 0 (gwi (M (a0 + 1) (0 : Int).toNat - 1))).bind fun x_4 => some x_4 else none
set_option maxHeartbeats 4000000 in
set_option maxRecDepth 100000 in
theorem mX9_isSlot {w : gW} {n : Nat} {Rm : Nat → Nat → Nat} {g : Nat → Nat} (hLC : gLC g n Rm) {l : Launch} (hl9 : l.stackTraces = false) {a0 : Nat} {x1 : Int} {M : gMem} {r : Int} (hg0 : g a0 = 9) (hr1 : gRI x1) (hf : fX9_isSlot g a0 x1 M = some r) : gMT w n Rm l yX9_isSlot cX9_isSlot 2 (some .boolean) 2 82 0 0 [.ref (w.1 + a0), .int (gi x1)] M (.inr (some (.int (gi r)))) M (r = 0 ∨ r = 1) := by
  unfold fX9_isSlot at hf
  refine gMT.of hl9 (by decide +kernel) ((Nat.le_of_ble_eq_true rfl)) ?_
  intro p e s m below meth c hM hH ls hl
  have hM : gMC w p l s m ([.ref (w.1 + a0), .int (gi x1)] : List Value).toArray meth c cX9_isSlot 2 RX9 (some .boolean) := hM
  have hl : lv_has ls 2 [(0, .ref (w.1 + a0)), (1, .int (gi x1))] := hl
  refine lv_iload_n hM.fx.1 hM.fx.2.1 dX9_isSlot_0 rfl (lv_at hl 1 rfl) ?_
  refine lv_iconst (v := gi (0)) hM.fx.1 hM.fx.2.1 dX9_isSlot_1 rfl ?_
  refine lv_aload_n hM.fx.1 hM.fx.2.1 dX9_isSlot_2 rfl (lv_at hl 0 rfl) ?_
  refine r_getR hM.fx hM.kf hH hLC fl_X9_7 hg0 gch_9_0 dX9_isSlot_3 ?_
  refine lv_iconst (v := gi (0)) hM.fx.1 hM.fx.2.1 dX9_isSlot_6 rfl ?_
  obtain ⟨g_1, hf⟩ := gif hf
  refine r_iald hM.fx hM.kf hH (hLC.in (hLC.ch hg0 (by decide) gch_9_0) (by decide)) (⟨by decide, by decide⟩ : gAr 19056 0) (gcR (k := 0) (by decide)) g_1 dX9_isSlot_7 ?_
  have hr_2 := hH.2.2.i (k := (0 : Int).toNat) (hLC.in (hLC.ch hg0 (by decide) gch_9_0) (by decide)).2.2 (glg_a (⟨by decide, by decide⟩ : gAr 19056 0))
  refine lv_iconst (v := gi (1)) hM.fx.1 hM.fx.2.1 dX9_isSlot_8 rfl ?_
  refine r_isub hM.fx dX9_isSlot_9 ?_
  obtain ⟨x_4, ex_4, hf⟩ := gbd hf
  refine r_go1 hH rfl (r_runS (As := [.int (gi x1), .int (gi 0), .int (gi (gwi (M (a0 + 1) (0 : Int).toNat - 1)))]) hM hH cs_X9_56 (mX9_isIn hLC hM.ns hr1 (gcR (k := 0) (by decide)) (gwi_r _) ex_4) rfl hl.1 rfl (Nat.le_of_ble_eq_true rfl) ⟨(Nat.le_of_ble_eq_true rfl), (Nat.le_of_ble_eq_true rfl)⟩ ⟨(Nat.le_of_ble_eq_true rfl), (Nat.le_of_ble_eq_true rfl)⟩ dX9_isSlot_10) (fun hp_3 H locs hH => ?_)
  obtain rfl := Option.some.inj hf
  exact r_zret hM hH hp_3 hp_3 ⟨(Nat.le_of_ble_eq_true rfl), (Nat.le_of_ble_eq_true rfl)⟩ dX9_isSlot_13
def fX9_isReady (g : Nat → Nat) (a0 : Nat) (x1 : Int) (M : gMem) : Option Int :=
  (fX9_of g a0 x1 0 M).bind fun x_2 => if x_2 = 0 then (some 1) else (some 0)
set_option maxHeartbeats 4000000 in
set_option maxRecDepth 100000 in
theorem mX9_isReady {w : gW} {n : Nat} {Rm : Nat → Nat → Nat} {g : Nat → Nat} (hLC : gLC g n Rm) {l : Launch} (hl9 : l.stackTraces = false) {a0 : Nat} {x1 : Int} {M : gMem} {r : Int} (hg0 : g a0 = 9) (hr1 : gRI x1) (hf : fX9_isReady g a0 x1 M = some r) : gMT w n Rm l yX9_isReady cX9_isReady 2 (some .boolean) 2 82 0 0 [.ref (w.1 + a0), .int (gi x1)] M (.inr (some (.int (gi r)))) M (r = 0 ∨ r = 1) := by
  unfold fX9_isReady at hf
  refine gMT.of hl9 (by decide +kernel) ((Nat.le_of_ble_eq_true rfl)) ?_
  intro p e s m below meth c hM hH ls hl
  have hM : gMC w p l s m ([.ref (w.1 + a0), .int (gi x1)] : List Value).toArray meth c cX9_isReady 2 RX9 (some .boolean) := hM
  have hl : lv_has ls 2 [(0, .ref (w.1 + a0)), (1, .int (gi x1))] := hl
  refine lv_aload_n hM.fx.1 hM.fx.2.1 dX9_isReady_0 rfl (lv_at hl 0 rfl) ?_
  refine lv_iload_n hM.fx.1 hM.fx.2.1 dX9_isReady_1 rfl (lv_at hl 1 rfl) ?_
  refine lv_iconst (v := gi (0)) hM.fx.1 hM.fx.2.1 dX9_isReady_2 rfl ?_
  obtain ⟨x_2, ex_2, hf⟩ := gbd hf
  refine r_go1 hH rfl (r_runV (As := [.int (gi x1), .int (gi 0)]) hM hH cv_X9_135 (mX9_of hLC hM.ns hg0 hr1 (gcR (k := 0) (by decide)) ex_2) (hLC.in hg0 (by decide)) (by decide) rfl rfl rfl hl.1 rfl (Nat.le_of_ble_eq_true rfl) ⟨(Nat.le_of_ble_eq_true rfl), (Nat.le_of_ble_eq_true rfl)⟩ ⟨(Nat.le_of_ble_eq_true rfl), (Nat.le_of_ble_eq_true rfl)⟩ dX9_isReady_3) (fun hp_1 H locs hH => ?_)
  refine r_if_ne (tgt := 13) hM.fx hp_1 dX9_isReady_6 (by decide) (fun h_3 => ?_) (fun h_3 => ?_)
  · have hf := gneg' h_3 hf
    refine lv_iconst (v := gi (0)) hM.fx.1 hM.fx.2.1 dX9_isReady_13 rfl ?_
    obtain rfl := Option.some.inj hf
    exact r_zret hM hH (Or.inl rfl) (Or.inl rfl) ⟨(Nat.le_of_ble_eq_true rfl), (Nat.le_of_ble_eq_true rfl)⟩ dX9_isReady_14
  · have hf := gpos h_3 hf
    refine lv_iconst (v := gi (1)) hM.fx.1 hM.fx.2.1 dX9_isReady_9 rfl ?_
    refine lv_goto (tgt := 14) hM.fx.1 hM.fx.2.1 dX9_isReady_10 (by decide) ?_
    obtain rfl := Option.some.inj hf
    exact r_zret hM hH (Or.inr rfl) (Or.inr rfl) ⟨(Nat.le_of_ble_eq_true rfl), (Nat.le_of_ble_eq_true rfl)⟩ dX9_isReady_14
def fX9_countOf_30 (g : Nat → Nat) (k4 : Nat → Int → Int → Int → gMem → Option Int) (a0 : Nat) (x1 : Int) (x3 : Int) (xs0 : Int) (xs1 : Int) (M : gMem) : Option Int :=
  gst (gwi (xs0 + xs1)) fun x_1 => gst (gwi (x3 + 1)) fun x_2 => k4 a0 x1 x_1 x_2 M
set_option maxHeartbeats 4000000 in
set_option maxRecDepth 100000 in
theorem wX9_countOf_30 {w : gW} {n : Nat} {Rm : Nat → Nat → Nat} {g : Nat → Nat} (hLC : gLC g n Rm) {p : Program} {l : Launch} {e : Env} {s : State} {m : MethodId} {args : Array Value} {below : List Frame} {meth : Method} {c : Code} (hM : gMC w p l s m args meth c cX9_countOf 4 RX9 (some .int)) (k4 : Nat → Int → Int → Int → gMem → Option Int) (hk4 : ∀ (a0 : Nat) (x1 : Int) (x2 : Int) (x3 : Int) (M : gMem) (r : Int) (hg0 : g a0 = 9) (hr1 : gRI x1) (hr2 : gRI x2) (hr3 : gRI x3) (hf : k4 a0 x1 x2 x3 M = some r) (H : Heap) (locs : List Loc) (ls : Array Slot) (hH : gH w n Rm M s H locs) (hl : lv_has ls 4 [(0, .ref (w.1 + a0)), (1, .int (gi x1)), (2, .int (gi x2)), (3, .int (gi x3))]), W p l e { frames := 2, cells := 0, slots := 0, locals := 82 } s m args below meth c H locs 0 0 (gQ w n Rm below args s 0 0 (.inr (some (.int (gi r)))) M (gRI r)) (F0 m 4 ls [])) : ∀ (a0 : Nat) (x1 : Int) (x3 : Int) (xs0 : Int) (xs1 : Int) (M : gMem) (r : Int) (hg0 : g a0 = 9) (hr1 : gRI x1) (hr3 : gRI x3) (hrs0 : gRI xs0) (hrs1 : gRI xs1) (hf : fX9_countOf_30 g k4 a0 x1 x3 xs0 xs1 M = some r) (H : Heap) (locs : List Loc) (ls : Array Slot) (hH : gH w n Rm M s H locs) (hl : lv_has ls 4 [(0, .ref (w.1 + a0)), (1, .int (gi x1)), (3, .int (gi x3))]), W p l e { frames := 2, cells := 0, slots := 0, locals := 82 } s m args below meth c H locs 0 0 (gQ w n Rm below args s 0 0 (.inr (some (.int (gi r)))) M (gRI r)) (F0 m 30 ls [.int (gi xs1), .int (gi xs0)]) := by
  intro a0 x1 x3 xs0 xs1 M r hg0 hr1 hr3 hrs0 hrs1 hf H locs ls hH hl
  unfold fX9_countOf_30 at hf
  refine r_iadd hM.fx dX9_countOf_30 ?_
  obtain ⟨x_1, ex_1, hf⟩ := gst_s hf
  refine W.eq (g2 := F0 m _ ls (.int (gi x_1) :: _)) (by rw [ex_1]) ?_
  have hx_1 : gRI x_1 := by rw [ex_1]; exact (gwi_r _)
  refine lv_istore_n (lv' := [(2, .int (gi x_1)), (0, .ref (w.1 + a0)), (1, .int (gi x1)), (3, .int (gi x3))]) hM.fx.1 hM.fx.2.1 dX9_countOf_31 rfl hl (by decide) rfl (fun ls hl => ?_)
  obtain ⟨x_2, ex_2, hf⟩ := gst_s hf
  have hx_2 : gRI x_2 := by rw [ex_2]; exact gwi_r _
  refine r_iinc (lv' := [(3, .int (gi x_2)), (2, .int (gi x_1)), (0, .ref (w.1 + a0)), (1, .int (gi x1))]) hM.fx dX9_countOf_32 hl (k := 3) rfl (by decide) (by rw [ex_2]; rfl) (fun ls hl => ?_)
  refine lv_goto (tgt := 4) hM.fx.1 hM.fx.2.1 dX9_countOf_35 (by decide) ?_
  exact hk4 _ _ _ _ _ _ hg0 hr1 hx_1 hx_2 hf _ _ _ hH (lv_sub hl [2, 3, 1, 0] rfl)
def fX9_countOf_4 (g : Nat → Nat)  : Nat → Nat → Int → Int → Int → gMem → Option Int
  | 0, _, _, _, _, _ => none
  | fu + 1, a0, x1, x2, x3, M => if (0 : Int) ≤ 1 ∧ (1 : Int) < 1190 then if M (a0 + 1) (1 : Int).toNat ≤ x3 then (some x2) else ((fX9_of g a0 x3 0 M).bind fun x_5 => if x_5 = x1 then (fX9_countOf_30 g (fX9_countOf_4 g fu) a0 x1 x3 x2 1 M) else (fX9_countOf_30 g (fX9_countOf_4 g fu) a0 x1 x3 x2 0 M)) else none
set_option maxHeartbeats 4000000 in
set_option maxRecDepth 100000 in
theorem wX9_countOf_4 {w : gW} {n : Nat} {Rm : Nat → Nat → Nat} {g : Nat → Nat} (hLC : gLC g n Rm) {p : Program} {l : Launch} {e : Env} {s : State} {m : MethodId} {args : Array Value} {below : List Frame} {meth : Method} {c : Code} (hM : gMC w p l s m args meth c cX9_countOf 4 RX9 (some .int))  : ∀ (fu : Nat), ∀ (a0 : Nat) (x1 : Int) (x2 : Int) (x3 : Int) (M : gMem) (r : Int) (hg0 : g a0 = 9) (hr1 : gRI x1) (hr2 : gRI x2) (hr3 : gRI x3) (hf : fX9_countOf_4 g fu a0 x1 x2 x3 M = some r) (H : Heap) (locs : List Loc) (ls : Array Slot) (hH : gH w n Rm M s H locs) (hl : lv_has ls 4 [(0, .ref (w.1 + a0)), (1, .int (gi x1)), (2, .int (gi x2)), (3, .int (gi x3))]), W p l e { frames := 2, cells := 0, slots := 0, locals := 82 } s m args below meth c H locs 0 0 (gQ w n Rm below args s 0 0 (.inr (some (.int (gi r)))) M (gRI r)) (F0 m 4 ls []) := by
  intro fu
  induction fu with
  | zero =>
    intro a0 x1 x2 x3 M r hg0 hr1 hr2 hr3 hf H locs ls hH hl
    exact absurd hf (by simp [fX9_countOf_4])
  | succ fu ih =>
    intro a0 x1 x2 x3 M r hg0 hr1 hr2 hr3 hf H locs ls hH hl
    unfold fX9_countOf_4 at hf
    refine lv_iload_n hM.fx.1 hM.fx.2.1 dX9_countOf_4 rfl (lv_at hl 3 rfl) ?_
    refine lv_aload_n hM.fx.1 hM.fx.2.1 dX9_countOf_5 rfl (lv_at hl 0 rfl) ?_
    refine r_getR hM.fx hM.kf hH hLC fl_X9_7 hg0 gch_9_0 dX9_countOf_6 ?_
    refine lv_iconst (v := gi (1)) hM.fx.1 hM.fx.2.1 dX9_countOf_9 rfl ?_
    obtain ⟨g_1, hf⟩ := gif hf
    refine r_iald hM.fx hM.kf hH (hLC.in (hLC.ch hg0 (by decide) gch_9_0) (by decide)) (⟨by decide, by decide⟩ : gAr 19056 0) (gcR (k := 1) (by decide)) g_1 dX9_countOf_10 ?_
    have hr_2 := hH.2.2.i (k := (1 : Int).toNat) (hLC.in (hLC.ch hg0 (by decide) gch_9_0) (by decide)).2.2 (glg_a (⟨by decide, by decide⟩ : gAr 19056 0))
    refine r_icmp_ge (tgt := 38) hM.fx hr3 hr_2 dX9_countOf_11 (by decide) (fun h_3 => ?_) (fun h_3 => ?_)
    · have hf := gpos h_3 hf
      refine lv_iload_n hM.fx.1 hM.fx.2.1 dX9_countOf_38 rfl (lv_at hl 2 rfl) ?_
      obtain rfl := Option.some.inj hf
      exact r_iret hM hH hr2 ⟨(Nat.le_of_ble_eq_true rfl), (Nat.le_of_ble_eq_true rfl)⟩ dX9_countOf_39
    · have hf := gneg' h_3 hf
      refine lv_iload_n hM.fx.1 hM.fx.2.1 dX9_countOf_14 rfl (lv_at hl 2 rfl) ?_
      refine lv_aload_n hM.fx.1 hM.fx.2.1 dX9_countOf_15 rfl (lv_at hl 0 rfl) ?_
      refine lv_iload_n hM.fx.1 hM.fx.2.1 dX9_countOf_16 rfl (lv_at hl 3 rfl) ?_
      refine lv_iconst (v := gi (0)) hM.fx.1 hM.fx.2.1 dX9_countOf_17 rfl ?_
      obtain ⟨x_5, ex_5, hf⟩ := gbd hf
      refine r_go1 hH rfl (r_runV (As := [.int (gi x3), .int (gi 0)]) hM hH cv_X9_135 (mX9_of hLC hM.ns hg0 hr3 (gcR (k := 0) (by decide)) ex_5) (hLC.in hg0 (by decide)) (by decide) rfl rfl rfl hl.1 rfl (Nat.le_of_ble_eq_true rfl) ⟨(Nat.le_of_ble_eq_true rfl), (Nat.le_of_ble_eq_true rfl)⟩ ⟨(Nat.le_of_ble_eq_true rfl), (Nat.le_of_ble_eq_true rfl)⟩ dX9_countOf_18) (fun hp_4 H locs hH => ?_)
      refine lv_iload_n hM.fx.1 hM.fx.2.1 dX9_countOf_21 rfl (lv_at hl 1 rfl) ?_
      refine r_icmp_ne (tgt := 29) hM.fx hp_4 hr1 dX9_countOf_22 (by decide) (fun h_6 => ?_) (fun h_6 => ?_)
      · have hf := gneg' h_6 hf
        refine lv_iconst (v := gi (0)) hM.fx.1 hM.fx.2.1 dX9_countOf_29 rfl ?_
        exact wX9_countOf_30 hLC hM (fX9_countOf_4 g fu) ih  _ _ _ _ _ _ _ hg0 hr1 hr3 hr2 (gcR (k := 0) (by decide)) hf _ _ _ hH (lv_sub hl [0, 1, 3] rfl)
      · have hf := gpos h_6 hf
        refine lv_iconst (v := gi (1)) hM.fx.1 hM.fx.2.1 dX9_countOf_25 rfl ?_
        refine lv_goto (tgt := 30) hM.fx.1 hM.fx.2.1 dX9_countOf_26 (by decide) ?_
        exact wX9_countOf_30 hLC hM (fX9_countOf_4 g fu) ih  _ _ _ _ _ _ _ hg0 hr1 hr3 hr2 (gcR (k := 1) (by decide)) hf _ _ _ hH (lv_sub hl [0, 1, 3] rfl)
def fX9_countOf (g : Nat → Nat) (a0 : Nat) (x1 : Int) (M : gMem) : Option Int :=
  fX9_countOf_4 g gF a0 x1 0 0 M
set_option maxHeartbeats 4000000 in
set_option maxRecDepth 100000 in
theorem mX9_countOf {w : gW} {n : Nat} {Rm : Nat → Nat → Nat} {g : Nat → Nat} (hLC : gLC g n Rm) {l : Launch} (hl9 : l.stackTraces = false) {a0 : Nat} {x1 : Int} {M : gMem} {r : Int} (hg0 : g a0 = 9) (hr1 : gRI x1) (hf : fX9_countOf g a0 x1 M = some r) : gMT w n Rm l yX9_countOf cX9_countOf 4 (some .int) 2 82 0 0 [.ref (w.1 + a0), .int (gi x1)] M (.inr (some (.int (gi r)))) M (gRI r) := by
  unfold fX9_countOf at hf
  refine gMT.of hl9 (by decide +kernel) ((Nat.le_of_ble_eq_true rfl)) ?_
  intro p e s m below meth c hM hH ls hl
  have hM : gMC w p l s m ([.ref (w.1 + a0), .int (gi x1)] : List Value).toArray meth c cX9_countOf 4 RX9 (some .int) := hM
  have hl : lv_has ls 4 [(0, .ref (w.1 + a0)), (1, .int (gi x1))] := hl
  refine lv_iconst (v := gi (0)) hM.fx.1 hM.fx.2.1 dX9_countOf_0 rfl ?_
  refine lv_istore_n (lv' := [(2, .int (gi 0)), (0, .ref (w.1 + a0)), (1, .int (gi x1))]) hM.fx.1 hM.fx.2.1 dX9_countOf_1 rfl hl (by decide) rfl (fun ls hl => ?_)
  refine lv_iconst (v := gi (0)) hM.fx.1 hM.fx.2.1 dX9_countOf_2 rfl ?_
  refine lv_istore_n (lv' := [(3, .int (gi 0)), (2, .int (gi 0)), (0, .ref (w.1 + a0)), (1, .int (gi x1))]) hM.fx.1 hM.fx.2.1 dX9_countOf_3 rfl hl (by decide) rfl (fun ls hl => ?_)
  exact wX9_countOf_4 hLC hM  gF _ _ _ _ _ _ hg0 hr1 (gcR (k := 0) (by decide)) (gcR (k := 0) (by decide)) hf _ _ _ hH (lv_sub hl [2, 3, 1, 0] rfl)
def fX9_sumOf_4 (g : Nat → Nat)  : Nat → Nat → Int → Int → Int → gMem → Option Int
  | 0, _, _, _, _, _ => none
  | fu + 1, a0, x1, x2, x3, M => if (0 : Int) ≤ 1 ∧ (1 : Int) < 1190 then if M (a0 + 1) (1 : Int).toNat ≤ x3 then (some x2) else ((fX9_of g a0 x3 x1 M).bind fun x_5 => gst (gwi (x2 + x_5)) fun x_6 => gst (gwi (x3 + 1)) fun x_7 => fX9_sumOf_4 g fu a0 x1 x_6 x_7 M) else none
set_option maxHeartbeats 4000000 in
set_option maxRecDepth 100000 in
theorem wX9_sumOf_4 {w : gW} {n : Nat} {Rm : Nat → Nat → Nat} {g : Nat → Nat} (hLC : gLC g n Rm) {p : Program} {l : Launch} {e : Env} {s : State} {m : MethodId} {args : Array Value} {below : List Frame} {meth : Method} {c : Code} (hM : gMC w p l s m args meth c cX9_sumOf 4 RX9 (some .int))  : ∀ (fu : Nat), ∀ (a0 : Nat) (x1 : Int) (x2 : Int) (x3 : Int) (M : gMem) (r : Int) (hg0 : g a0 = 9) (hr1 : gRI x1) (hr2 : gRI x2) (hr3 : gRI x3) (hf : fX9_sumOf_4 g fu a0 x1 x2 x3 M = some r) (H : Heap) (locs : List Loc) (ls : Array Slot) (hH : gH w n Rm M s H locs) (hl : lv_has ls 4 [(0, .ref (w.1 + a0)), (1, .int (gi x1)), (2, .int (gi x2)), (3, .int (gi x3))]), W p l e { frames := 2, cells := 0, slots := 0, locals := 82 } s m args below meth c H locs 0 0 (gQ w n Rm below args s 0 0 (.inr (some (.int (gi r)))) M (gRI r)) (F0 m 4 ls []) := by
  intro fu
  induction fu with
  | zero =>
    intro a0 x1 x2 x3 M r hg0 hr1 hr2 hr3 hf H locs ls hH hl
    exact absurd hf (by simp [fX9_sumOf_4])
  | succ fu ih =>
    intro a0 x1 x2 x3 M r hg0 hr1 hr2 hr3 hf H locs ls hH hl
    unfold fX9_sumOf_4 at hf
    refine lv_iload_n hM.fx.1 hM.fx.2.1 dX9_sumOf_4 rfl (lv_at hl 3 rfl) ?_
    refine lv_aload_n hM.fx.1 hM.fx.2.1 dX9_sumOf_5 rfl (lv_at hl 0 rfl) ?_
    refine r_getR hM.fx hM.kf hH hLC fl_X9_7 hg0 gch_9_0 dX9_sumOf_6 ?_
    refine lv_iconst (v := gi (1)) hM.fx.1 hM.fx.2.1 dX9_sumOf_9 rfl ?_
    obtain ⟨g_1, hf⟩ := gif hf
    refine r_iald hM.fx hM.kf hH (hLC.in (hLC.ch hg0 (by decide) gch_9_0) (by decide)) (⟨by decide, by decide⟩ : gAr 19056 0) (gcR (k := 1) (by decide)) g_1 dX9_sumOf_10 ?_
    have hr_2 := hH.2.2.i (k := (1 : Int).toNat) (hLC.in (hLC.ch hg0 (by decide) gch_9_0) (by decide)).2.2 (glg_a (⟨by decide, by decide⟩ : gAr 19056 0))
    refine r_icmp_ge (tgt := 29) hM.fx hr3 hr_2 dX9_sumOf_11 (by decide) (fun h_3 => ?_) (fun h_3 => ?_)
    · have hf := gpos h_3 hf
      refine lv_iload_n hM.fx.1 hM.fx.2.1 dX9_sumOf_29 rfl (lv_at hl 2 rfl) ?_
      obtain rfl := Option.some.inj hf
      exact r_iret hM hH hr2 ⟨(Nat.le_of_ble_eq_true rfl), (Nat.le_of_ble_eq_true rfl)⟩ dX9_sumOf_30
    · have hf := gneg' h_3 hf
      refine lv_iload_n hM.fx.1 hM.fx.2.1 dX9_sumOf_14 rfl (lv_at hl 2 rfl) ?_
      refine lv_aload_n hM.fx.1 hM.fx.2.1 dX9_sumOf_15 rfl (lv_at hl 0 rfl) ?_
      refine lv_iload_n hM.fx.1 hM.fx.2.1 dX9_sumOf_16 rfl (lv_at hl 3 rfl) ?_
      refine lv_iload_n hM.fx.1 hM.fx.2.1 dX9_sumOf_17 rfl (lv_at hl 1 rfl) ?_
      obtain ⟨x_5, ex_5, hf⟩ := gbd hf
      refine r_go1 hH rfl (r_runV (As := [.int (gi x3), .int (gi x1)]) hM hH cv_X9_135 (mX9_of hLC hM.ns hg0 hr3 hr1 ex_5) (hLC.in hg0 (by decide)) (by decide) rfl rfl rfl hl.1 rfl (Nat.le_of_ble_eq_true rfl) ⟨(Nat.le_of_ble_eq_true rfl), (Nat.le_of_ble_eq_true rfl)⟩ ⟨(Nat.le_of_ble_eq_true rfl), (Nat.le_of_ble_eq_true rfl)⟩ dX9_sumOf_18) (fun hp_4 H locs hH => ?_)
      refine r_iadd hM.fx dX9_sumOf_21 ?_
      obtain ⟨x_6, ex_6, hf⟩ := gst_s hf
      refine W.eq (g2 := F0 m _ ls (.int (gi x_6) :: _)) (by rw [ex_6]) ?_
      have hx_6 : gRI x_6 := by rw [ex_6]; exact (gwi_r _)
      refine lv_istore_n (lv' := [(2, .int (gi x_6)), (0, .ref (w.1 + a0)), (1, .int (gi x1)), (3, .int (gi x3))]) hM.fx.1 hM.fx.2.1 dX9_sumOf_22 rfl hl (by decide) rfl (fun ls hl => ?_)
      obtain ⟨x_7, ex_7, hf⟩ := gst_s hf
      have hx_7 : gRI x_7 := by rw [ex_7]; exact gwi_r _
      refine r_iinc (lv' := [(3, .int (gi x_7)), (2, .int (gi x_6)), (0, .ref (w.1 + a0)), (1, .int (gi x1))]) hM.fx dX9_sumOf_23 hl (k := 3) rfl (by decide) (by rw [ex_7]; rfl) (fun ls hl => ?_)
      refine lv_goto (tgt := 4) hM.fx.1 hM.fx.2.1 dX9_sumOf_26 (by decide) ?_
      exact ih _ _ _ _ _ _ hg0 hr1 hx_6 hx_7 hf _ _ _ hH (lv_sub hl [2, 3, 1, 0] rfl)
def fX9_sumOf (g : Nat → Nat) (a0 : Nat) (x1 : Int) (M : gMem) : Option Int :=
  fX9_sumOf_4 g gF a0 x1 0 0 M
set_option maxHeartbeats 4000000 in
set_option maxRecDepth 100000 in
theorem mX9_sumOf {w : gW} {n : Nat} {Rm : Nat → Nat → Nat} {g : Nat → Nat} (hLC : gLC g n Rm) {l : Launch} (hl9 : l.stackTraces = false) {a0 : Nat} {x1 : Int} {M : gMem} {r : Int} (hg0 : g a0 = 9) (hr1 : gRI x1) (hf : fX9_sumOf g a0 x1 M = some r) : gMT w n Rm l yX9_sumOf cX9_sumOf 4 (some .int) 2 82 0 0 [.ref (w.1 + a0), .int (gi x1)] M (.inr (some (.int (gi r)))) M (gRI r) := by
  unfold fX9_sumOf at hf
  refine gMT.of hl9 (by decide +kernel) ((Nat.le_of_ble_eq_true rfl)) ?_
  intro p e s m below meth c hM hH ls hl
  have hM : gMC w p l s m ([.ref (w.1 + a0), .int (gi x1)] : List Value).toArray meth c cX9_sumOf 4 RX9 (some .int) := hM
  have hl : lv_has ls 4 [(0, .ref (w.1 + a0)), (1, .int (gi x1))] := hl
  refine lv_iconst (v := gi (0)) hM.fx.1 hM.fx.2.1 dX9_sumOf_0 rfl ?_
  refine lv_istore_n (lv' := [(2, .int (gi 0)), (0, .ref (w.1 + a0)), (1, .int (gi x1))]) hM.fx.1 hM.fx.2.1 dX9_sumOf_1 rfl hl (by decide) rfl (fun ls hl => ?_)
  refine lv_iconst (v := gi (0)) hM.fx.1 hM.fx.2.1 dX9_sumOf_2 rfl ?_
  refine lv_istore_n (lv' := [(3, .int (gi 0)), (2, .int (gi 0)), (0, .ref (w.1 + a0)), (1, .int (gi x1))]) hM.fx.1 hM.fx.2.1 dX9_sumOf_3 rfl hl (by decide) rfl (fun ls hl => ?_)
  exact wX9_sumOf_4 hLC hM  gF _ _ _ _ _ _ hg0 hr1 (gcR (k := 0) (by decide)) (gcR (k := 0) (by decide)) hf _ _ _ hH (lv_sub hl [2, 3, 1, 0] rfl)
def fX9_neededBy (g : Nat → Nat) (x0 : Int) : Option Int :=
  if x0 = 1 then (some 1) else (if x0 = 2 then (some 1) else (if x0 = 3 then (some 2) else (if x0 = 4 then (some 2) else (if x0 = 5 then (some 2) else (if x0 = 6 then (some 2) else (if x0 = 7 then (some 1) else (if x0 = 8 then (some 0) else (if x0 = 9 then (some 0) else (if x0 = 10 then (some 0) else (if x0 = 11 then (some 0) else (if x0 = 12 then (some 1) else (some 0))))))))))))
set_option maxHeartbeats 4000000 in
set_option maxRecDepth 100000 in
theorem mX9_neededBy {w : gW} {n : Nat} {Rm : Nat → Nat → Nat} {g : Nat → Nat} (hLC : gLC g n Rm) {l : Launch} (hl9 : l.stackTraces = false) {x0 : Int} {M : gMem} {r : Int} (hr0 : gRI x0) (hf : fX9_neededBy g x0 = some r) : gMT w n Rm l yX9_neededBy cX9_neededBy 1 (some .int) 1 60 0 0 [.int (gi x0)] M (.inr (some (.int (gi r)))) M (gRI r) := by
  unfold fX9_neededBy at hf
  refine gMT.of hl9 (by decide +kernel) ((Nat.le_of_ble_eq_true rfl)) ?_
  intro p e s m below meth c hM hH ls hl
  have hM : gMC w p l s m ([.int (gi x0)] : List Value).toArray meth c cX9_neededBy 1 RX9 (some .int) := hM
  have hl : lv_has ls 1 [(0, .int (gi x0))] := hl
  refine lv_iload_n hM.fx.1 hM.fx.2.1 dX9_neededBy_0 rfl (lv_at hl 0 rfl) ?_
  by_cases h_1 : x0 = 1
  · refine r_tsIn (tgt := 64) hM.fx hr0 1 dX9_neededBy_1 h_1 (by decide) rfl (by decide) ?_
    have hf := gpos h_1 hf
    refine lv_iconst (v := gi (1)) hM.fx.1 hM.fx.2.1 dX9_neededBy_64 rfl ?_
    obtain rfl := Option.some.inj hf
    exact r_iret hM hH (gcR (k := 1) (by decide)) ⟨(Nat.le_of_ble_eq_true rfl), (Nat.le_of_ble_eq_true rfl)⟩ dX9_neededBy_65
  · have hf := gneg' h_1 hf
    by_cases h_2 : x0 = 2
    · refine r_tsIn (tgt := 64) hM.fx hr0 2 dX9_neededBy_1 h_2 (by decide) rfl (by decide) ?_
      have hf := gpos h_2 hf
      refine lv_iconst (v := gi (1)) hM.fx.1 hM.fx.2.1 dX9_neededBy_64 rfl ?_
      obtain rfl := Option.some.inj hf
      exact r_iret hM hH (gcR (k := 1) (by decide)) ⟨(Nat.le_of_ble_eq_true rfl), (Nat.le_of_ble_eq_true rfl)⟩ dX9_neededBy_65
    · have hf := gneg' h_2 hf
      by_cases h_3 : x0 = 3
      · refine r_tsIn (tgt := 66) hM.fx hr0 3 dX9_neededBy_1 h_3 (by decide) rfl (by decide) ?_
        have hf := gpos h_3 hf
        refine lv_iconst (v := gi (2)) hM.fx.1 hM.fx.2.1 dX9_neededBy_66 rfl ?_
        obtain rfl := Option.some.inj hf
        exact r_iret hM hH (gcR (k := 2) (by decide)) ⟨(Nat.le_of_ble_eq_true rfl), (Nat.le_of_ble_eq_true rfl)⟩ dX9_neededBy_67
      · have hf := gneg' h_3 hf
        by_cases h_4 : x0 = 4
        · refine r_tsIn (tgt := 66) hM.fx hr0 4 dX9_neededBy_1 h_4 (by decide) rfl (by decide) ?_
          have hf := gpos h_4 hf
          refine lv_iconst (v := gi (2)) hM.fx.1 hM.fx.2.1 dX9_neededBy_66 rfl ?_
          obtain rfl := Option.some.inj hf
          exact r_iret hM hH (gcR (k := 2) (by decide)) ⟨(Nat.le_of_ble_eq_true rfl), (Nat.le_of_ble_eq_true rfl)⟩ dX9_neededBy_67
        · have hf := gneg' h_4 hf
          by_cases h_5 : x0 = 5
          · refine r_tsIn (tgt := 66) hM.fx hr0 5 dX9_neededBy_1 h_5 (by decide) rfl (by decide) ?_
            have hf := gpos h_5 hf
            refine lv_iconst (v := gi (2)) hM.fx.1 hM.fx.2.1 dX9_neededBy_66 rfl ?_
            obtain rfl := Option.some.inj hf
            exact r_iret hM hH (gcR (k := 2) (by decide)) ⟨(Nat.le_of_ble_eq_true rfl), (Nat.le_of_ble_eq_true rfl)⟩ dX9_neededBy_67
          · have hf := gneg' h_5 hf
            by_cases h_6 : x0 = 6
            · refine r_tsIn (tgt := 66) hM.fx hr0 6 dX9_neededBy_1 h_6 (by decide) rfl (by decide) ?_
              have hf := gpos h_6 hf
              refine lv_iconst (v := gi (2)) hM.fx.1 hM.fx.2.1 dX9_neededBy_66 rfl ?_
              obtain rfl := Option.some.inj hf
              exact r_iret hM hH (gcR (k := 2) (by decide)) ⟨(Nat.le_of_ble_eq_true rfl), (Nat.le_of_ble_eq_true rfl)⟩ dX9_neededBy_67
            · have hf := gneg' h_6 hf
              by_cases h_7 : x0 = 7
              · refine r_tsIn (tgt := 64) hM.fx hr0 7 dX9_neededBy_1 h_7 (by decide) rfl (by decide) ?_
                have hf := gpos h_7 hf
                refine lv_iconst (v := gi (1)) hM.fx.1 hM.fx.2.1 dX9_neededBy_64 rfl ?_
                obtain rfl := Option.some.inj hf
                exact r_iret hM hH (gcR (k := 1) (by decide)) ⟨(Nat.le_of_ble_eq_true rfl), (Nat.le_of_ble_eq_true rfl)⟩ dX9_neededBy_65
              · have hf := gneg' h_7 hf
                by_cases h_8 : x0 = 8
                · refine r_tsIn (tgt := 68) hM.fx hr0 8 dX9_neededBy_1 h_8 (by decide) rfl (by decide) ?_
                  have hf := gpos h_8 hf
                  refine lv_iconst (v := gi (0)) hM.fx.1 hM.fx.2.1 dX9_neededBy_68 rfl ?_
                  obtain rfl := Option.some.inj hf
                  exact r_iret hM hH (gcR (k := 0) (by decide)) ⟨(Nat.le_of_ble_eq_true rfl), (Nat.le_of_ble_eq_true rfl)⟩ dX9_neededBy_69
                · have hf := gneg' h_8 hf
                  by_cases h_9 : x0 = 9
                  · refine r_tsIn (tgt := 68) hM.fx hr0 9 dX9_neededBy_1 h_9 (by decide) rfl (by decide) ?_
                    have hf := gpos h_9 hf
                    refine lv_iconst (v := gi (0)) hM.fx.1 hM.fx.2.1 dX9_neededBy_68 rfl ?_
                    obtain rfl := Option.some.inj hf
                    exact r_iret hM hH (gcR (k := 0) (by decide)) ⟨(Nat.le_of_ble_eq_true rfl), (Nat.le_of_ble_eq_true rfl)⟩ dX9_neededBy_69
                  · have hf := gneg' h_9 hf
                    by_cases h_10 : x0 = 10
                    · refine r_tsIn (tgt := 68) hM.fx hr0 10 dX9_neededBy_1 h_10 (by decide) rfl (by decide) ?_
                      have hf := gpos h_10 hf
                      refine lv_iconst (v := gi (0)) hM.fx.1 hM.fx.2.1 dX9_neededBy_68 rfl ?_
                      obtain rfl := Option.some.inj hf
                      exact r_iret hM hH (gcR (k := 0) (by decide)) ⟨(Nat.le_of_ble_eq_true rfl), (Nat.le_of_ble_eq_true rfl)⟩ dX9_neededBy_69
                    · have hf := gneg' h_10 hf
                      by_cases h_11 : x0 = 11
                      · refine r_tsIn (tgt := 68) hM.fx hr0 11 dX9_neededBy_1 h_11 (by decide) rfl (by decide) ?_
                        have hf := gpos h_11 hf
                        refine lv_iconst (v := gi (0)) hM.fx.1 hM.fx.2.1 dX9_neededBy_68 rfl ?_
                        obtain rfl := Option.some.inj hf
                        exact r_iret hM hH (gcR (k := 0) (by decide)) ⟨(Nat.le_of_ble_eq_true rfl), (Nat.le_of_ble_eq_true rfl)⟩ dX9_neededBy_69
                      · have hf := gneg' h_11 hf
                        by_cases h_12 : x0 = 12
                        · refine r_tsIn (tgt := 64) hM.fx hr0 12 dX9_neededBy_1 h_12 (by decide) rfl (by decide) ?_
                          have hf := gpos h_12 hf
                          refine lv_iconst (v := gi (1)) hM.fx.1 hM.fx.2.1 dX9_neededBy_64 rfl ?_
                          obtain rfl := Option.some.inj hf
                          exact r_iret hM hH (gcR (k := 1) (by decide)) ⟨(Nat.le_of_ble_eq_true rfl), (Nat.le_of_ble_eq_true rfl)⟩ dX9_neededBy_65
                        · have hf := gneg' h_12 hf
                          refine r_tsOut (tgt := 68) hM.fx hr0 dX9_neededBy_1 (by omega) (by decide) ?_
                          refine lv_iconst (v := gi (0)) hM.fx.1 hM.fx.2.1 dX9_neededBy_68 rfl ?_
                          obtain rfl := Option.some.inj hf
                          exact r_iret hM hH (gcR (k := 0) (by decide)) ⟨(Nat.le_of_ble_eq_true rfl), (Nat.le_of_ble_eq_true rfl)⟩ dX9_neededBy_69
def fX9_isSum (g : Nat → Nat) (x0 : Int) : Option Int :=
  (fX9_isIn g x0 4 6).bind fun x_2 => some x_2
set_option maxHeartbeats 4000000 in
set_option maxRecDepth 100000 in
theorem mX9_isSum {w : gW} {n : Nat} {Rm : Nat → Nat → Nat} {g : Nat → Nat} (hLC : gLC g n Rm) {l : Launch} (hl9 : l.stackTraces = false) {x0 : Int} {M : gMem} {r : Int} (hr0 : gRI x0) (hf : fX9_isSum g x0 = some r) : gMT w n Rm l yX9_isSum cX9_isSum 1 (some .boolean) 2 82 0 0 [.int (gi x0)] M (.inr (some (.int (gi r)))) M (r = 0 ∨ r = 1) := by
  unfold fX9_isSum at hf
  refine gMT.of hl9 (by decide +kernel) ((Nat.le_of_ble_eq_true rfl)) ?_
  intro p e s m below meth c hM hH ls hl
  have hM : gMC w p l s m ([.int (gi x0)] : List Value).toArray meth c cX9_isSum 1 RX9 (some .boolean) := hM
  have hl : lv_has ls 1 [(0, .int (gi x0))] := hl
  refine lv_iload_n hM.fx.1 hM.fx.2.1 dX9_isSum_0 rfl (lv_at hl 0 rfl) ?_
  refine lv_iconst (v := gi (4)) hM.fx.1 hM.fx.2.1 dX9_isSum_1 rfl ?_
  refine lv_bipush (v := gi (6)) hM.fx.1 hM.fx.2.1 dX9_isSum_2 (by decide) ?_
  obtain ⟨x_2, ex_2, hf⟩ := gbd hf
  refine r_go1 hH rfl (r_runS (As := [.int (gi x0), .int (gi 4), .int (gi 6)]) hM hH cs_X9_56 (mX9_isIn hLC hM.ns hr0 (gcR (k := 4) (by decide)) (gcR (k := 6) (by decide)) ex_2) rfl hl.1 rfl (Nat.le_of_ble_eq_true rfl) ⟨(Nat.le_of_ble_eq_true rfl), (Nat.le_of_ble_eq_true rfl)⟩ ⟨(Nat.le_of_ble_eq_true rfl), (Nat.le_of_ble_eq_true rfl)⟩ dX9_isSum_4) (fun hp_1 H locs hH => ?_)
  obtain rfl := Option.some.inj hf
  exact r_zret hM hH hp_1 hp_1 ⟨(Nat.le_of_ble_eq_true rfl), (Nat.le_of_ble_eq_true rfl)⟩ dX9_isSum_7
