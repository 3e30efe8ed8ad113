def fX9_steps_121 (g : Nat → Nat)  (a0 : Nat) (x1 : Int) (x2 : Int) (x3 : Int) (x4 : Int) (as0 : Nat) (xs1 : Int) (xs2 : Int) (xs3 : Int) (M : gMem) : Option (Int × gMem) :=
  (fX9_traces g as0 xs1 xs2 xs3 M).bind fun M_2 => if x3 = 0 then (if x4 ≤ 0 then ((fX9_sets g a0 x1 2 (gwi (x2 + 1)) M_2).bind fun M_6 => (fX9_of g a0 x1 (gwi (18 + x2)) M_6).bind fun x_8 => (fX9_of g a0 x1 (gwi (42 + x2)) M_6).bind fun x_10 => (fX9_does g a0 x1 x_8 x_10 M_6).bind fun M_12 => some (1, M_12)) else ((fX9_sets g a0 x1 0 2 M_2).bind fun M_14 => (fX9_sets g a0 x1 1 x4 M_14).bind fun M_16 => some (1, M_16))) else ((fX9_sets g a0 x1 0 1 M_2).bind fun M_18 => some (1, M_18))
set_option maxHeartbeats 4000000 in
set_option maxRecDepth 100000 in
theorem wX9_steps_121 {w : gW} {n : Nat} {Rm : Nat → Nat → Nat} {g : Nat → Nat} (hLC : gLC g n Rm) {p : Program} {l : Launch} {e : Env} {s : State} {m : MethodId} {args : Array Value} {below : List Frame} {meth : Method} {c : Code} (hM : gMC w p l s m args meth c cX9_steps 5 RX9 (some .boolean))  : ∀ (a0 : Nat) (x1 : Int) (x2 : Int) (x3 : Int) (x4 : Int) (as0 : Nat) (xs1 : Int) (xs2 : Int) (xs3 : Int) (M : gMem) (r : (Int × gMem)) (hg0 : g a0 = 9) (hr1 : gRI x1) (hr2 : gRI x2) (hr3 : gRI x3) (hr4 : gRI x4) (hgs0 : g as0 = 9) (hrs1 : gRI xs1) (hrs2 : gRI xs2) (hrs3 : gRI xs3) (hf : fX9_steps_121 g a0 x1 x2 x3 x4 as0 xs1 xs2 xs3 M = some r) (H : Heap) (locs : List Loc) (ls : Array Slot) (hH : gH w n Rm M s H locs) (hl : lv_has ls 5 [(0, .ref (w.1 + a0)), (1, .int (gi x1)), (2, .int (gi x2)), (3, .int (gi x3)), (4, .int (gi x4))]), W p l e { frames := 6, cells := 0, slots := 0, locals := 177 } s m args below meth c H locs 0 0 (gQ w n Rm below args s 0 0 (.inr (some (.int (gi r.1)))) r.2 (r.1 = 0 ∨ r.1 = 1)) (F0 m 121 ls [.int (gi xs3), .int (gi xs2), .int (gi xs1), .ref (w.1 + as0)]) := by
  intro a0 x1 x2 x3 x4 as0 xs1 xs2 xs3 M r hg0 hr1 hr2 hr3 hr4 hgs0 hrs1 hrs2 hrs3 hf H locs ls hH hl
  unfold fX9_steps_121 at hf
  obtain ⟨M_2, eM_2, hf⟩ := gbd hf
  refine r_go0 hH rfl (r_runV (As := [.int (gi xs1), .int (gi xs2), .int (gi xs3)]) hM hH cv_X9_294 (mX9_traces hLC hM.ns hgs0 hrs1 hrs2 hrs3 eM_2) (hLC.in hgs0 (by decide)) (by decide) rfl rfl rfl hl.1 rfl (Nat.le_of_ble_eq_true rfl) ⟨(Nat.le_of_ble_eq_true rfl), (Nat.le_of_ble_eq_true rfl)⟩ ⟨(Nat.le_of_ble_eq_true rfl), (Nat.le_of_ble_eq_true rfl)⟩ dX9_steps_121) (fun hp_1 H locs hH => ?_)
  refine lv_iload_n hM.fx.1 hM.fx.2.1 dX9_steps_124 rfl (lv_at hl 3 rfl) ?_
  refine r_if_eq (tgt := 138) hM.fx hr3 dX9_steps_125 (by decide) (fun h_3 => ?_) (fun h_3 => ?_)
  · have hf := gpos h_3 hf
    refine lv_iload hM.fx.1 hM.fx.2.1 dX9_steps_138 (lv_at hl 4 rfl) ?_
    refine r_if_le (tgt := 161) hM.fx hr4 dX9_steps_140 (by decide) (fun h_4 => ?_) (fun h_4 => ?_)
    · have hf := gpos h_4 hf
      refine lv_aload_n hM.fx.1 hM.fx.2.1 dX9_steps_161 rfl (lv_at hl 0 rfl) ?_
      refine lv_iload_n hM.fx.1 hM.fx.2.1 dX9_steps_162 rfl (lv_at hl 1 rfl) ?_
      refine lv_iconst (v := gi (2)) hM.fx.1 hM.fx.2.1 dX9_steps_163 rfl ?_
      refine lv_iload_n hM.fx.1 hM.fx.2.1 dX9_steps_164 rfl (lv_at hl 2 rfl) ?_
      refine lv_iconst (v := gi (1)) hM.fx.1 hM.fx.2.1 dX9_steps_165 rfl ?_
      refine r_iadd hM.fx dX9_steps_166 ?_
      obtain ⟨M_6, eM_6, hf⟩ := gbd hf
      refine r_go0 hH rfl (r_runV (As := [.int (gi x1), .int (gi 2), .int (gi (gwi (x2 + 1)))]) hM hH cv_X9_42 (mX9_sets hLC hM.ns hg0 hr1 (gcR (k := 2) (by decide)) (gwi_r _) eM_6) (hLC.in hg0 (by decide)) (by decide) rfl rfl rfl hl.1 rfl (Nat.le_of_ble_eq_true rfl) ⟨(Nat.le_of_ble_eq_true rfl), (Nat.le_of_ble_eq_true rfl)⟩ ⟨(Nat.le_of_ble_eq_true rfl), (Nat.le_of_ble_eq_true rfl)⟩ dX9_steps_167) (fun hp_5 H locs hH => ?_)
      refine lv_aload_n hM.fx.1 hM.fx.2.1 dX9_steps_170 rfl (lv_at hl 0 rfl) ?_
      refine lv_iload_n hM.fx.1 hM.fx.2.1 dX9_steps_171 rfl (lv_at hl 1 rfl) ?_
      refine lv_aload_n hM.fx.1 hM.fx.2.1 dX9_steps_172 rfl (lv_at hl 0 rfl) ?_
      refine lv_iload_n hM.fx.1 hM.fx.2.1 dX9_steps_173 rfl (lv_at hl 1 rfl) ?_
      refine lv_bipush (v := gi (18)) hM.fx.1 hM.fx.2.1 dX9_steps_174 (by decide) ?_
      refine lv_iload_n hM.fx.1 hM.fx.2.1 dX9_steps_176 rfl (lv_at hl 2 rfl) ?_
      refine r_iadd hM.fx dX9_steps_177 ?_
      obtain ⟨x_8, ex_8, hf⟩ := gbd hf
      refine r_go1 hH rfl (r_runV (As := [.int (gi x1), .int (gi (gwi (18 + x2)))]) hM hH cv_X9_135 (mX9_of hLC hM.ns hg0 hr1 (gwi_r _) ex_8) (hLC.in hg0 (by decide)) (by decide) rfl rfl rfl hl.1 rfl (Nat.le_of_ble_eq_true rfl) ⟨(Nat.le_of_ble_eq_true rfl), (Nat.le_of_ble_eq_true rfl)⟩ ⟨(Nat.le_of_ble_eq_true rfl), (Nat.le_of_ble_eq_true rfl)⟩ dX9_steps_178) (fun hp_7 H locs hH => ?_)
      refine lv_aload_n hM.fx.1 hM.fx.2.1 dX9_steps_181 rfl (lv_at hl 0 rfl) ?_
      refine lv_iload_n hM.fx.1 hM.fx.2.1 dX9_steps_182 rfl (lv_at hl 1 rfl) ?_
      refine lv_bipush (v := gi (42)) hM.fx.1 hM.fx.2.1 dX9_steps_183 (by decide) ?_
      refine lv_iload_n hM.fx.1 hM.fx.2.1 dX9_steps_185 rfl (lv_at hl 2 rfl) ?_
      refine r_iadd hM.fx dX9_steps_186 ?_
      obtain ⟨x_10, ex_10, hf⟩ := gbd hf
      refine r_go1 hH rfl (r_runV (As := [.int (gi x1), .int (gi (gwi (42 + x2)))]) hM hH cv_X9_135 (mX9_of hLC hM.ns hg0 hr1 (gwi_r _) ex_10) (hLC.in hg0 (by decide)) (by decide) rfl rfl rfl hl.1 rfl (Nat.le_of_ble_eq_true rfl) ⟨(Nat.le_of_ble_eq_true rfl), (Nat.le_of_ble_eq_true rfl)⟩ ⟨(Nat.le_of_ble_eq_true rfl), (Nat.le_of_ble_eq_true rfl)⟩ dX9_steps_187) (fun hp_9 H locs hH => ?_)
      obtain ⟨M_12, eM_12, hf⟩ := gbd hf
      refine r_go0 hH rfl (r_runV (As := [.int (gi x1), .int (gi x_8), .int (gi x_10)]) hM hH cv_X9_297 (mX9_does hLC hM.ns hg0 hr1 hp_7 hp_9 eM_12) (hLC.in hg0 (by decide)) (by decide) rfl rfl rfl hl.1 rfl (Nat.le_of_ble_eq_true rfl) ⟨(Nat.le_of_ble_eq_true rfl), (Nat.le_of_ble_eq_true rfl)⟩ ⟨(Nat.le_of_ble_eq_true rfl), (Nat.le_of_ble_eq_true rfl)⟩ dX9_steps_190) (fun hp_11 H locs hH => ?_)
      refine lv_iconst (v := gi (1)) hM.fx.1 hM.fx.2.1 dX9_steps_193 rfl ?_
      obtain rfl := Option.some.inj hf
      exact r_zret hM hH (Or.inr rfl) (Or.inr rfl) ⟨(Nat.le_of_ble_eq_true rfl), (Nat.le_of_ble_eq_true rfl)⟩ dX9_steps_194
    · have hf := gneg' h_4 hf
      refine lv_aload_n hM.fx.1 hM.fx.2.1 dX9_steps_143 rfl (lv_at hl 0 rfl) ?_
      refine lv_iload_n hM.fx.1 hM.fx.2.1 dX9_steps_144 rfl (lv_at hl 1 rfl) ?_
      refine lv_iconst (v := gi (0)) hM.fx.1 hM.fx.2.1 dX9_steps_145 rfl ?_
      refine lv_iconst (v := gi (2)) hM.fx.1 hM.fx.2.1 dX9_steps_146 rfl ?_
      obtain ⟨M_14, eM_14, hf⟩ := gbd hf
      refine r_go0 hH rfl (r_runV (As := [.int (gi x1), .int (gi 0), .int (gi 2)]) hM hH cv_X9_42 (mX9_sets hLC hM.ns hg0 hr1 (gcR (k := 0) (by decide)) (gcR (k := 2) (by decide)) eM_14) (hLC.in hg0 (by decide)) (by decide) rfl rfl rfl hl.1 rfl (Nat.le_of_ble_eq_true rfl) ⟨(Nat.le_of_ble_eq_true rfl), (Nat.le_of_ble_eq_true rfl)⟩ ⟨(Nat.le_of_ble_eq_true rfl), (Nat.le_of_ble_eq_true rfl)⟩ dX9_steps_147) (fun hp_13 H locs hH => ?_)
      refine lv_aload_n hM.fx.1 hM.fx.2.1 dX9_steps_150 rfl (lv_at hl 0 rfl) ?_
      refine lv_iload_n hM.fx.1 hM.fx.2.1 dX9_steps_151 rfl (lv_at hl 1 rfl) ?_
      refine lv_iconst (v := gi (1)) hM.fx.1 hM.fx.2.1 dX9_steps_152 rfl ?_
      refine lv_iload hM.fx.1 hM.fx.2.1 dX9_steps_153 (lv_at hl 4 rfl) ?_
      obtain ⟨M_16, eM_16, hf⟩ := gbd hf
      refine r_go0 hH rfl (r_runV (As := [.int (gi x1), .int (gi 1), .int (gi x4)]) hM hH cv_X9_42 (mX9_sets hLC hM.ns hg0 hr1 (gcR (k := 1) (by decide)) hr4 eM_16) (hLC.in hg0 (by decide)) (by decide) rfl rfl rfl hl.1 rfl (Nat.le_of_ble_eq_true rfl) ⟨(Nat.le_of_ble_eq_true rfl), (Nat.le_of_ble_eq_true rfl)⟩ ⟨(Nat.le_of_ble_eq_true rfl), (Nat.le_of_ble_eq_true rfl)⟩ dX9_steps_155) (fun hp_15 H locs hH => ?_)
      refine lv_goto (tgt := 193) hM.fx.1 hM.fx.2.1 dX9_steps_158 (by decide) ?_
      refine lv_iconst (v := gi (1)) hM.fx.1 hM.fx.2.1 dX9_steps_193 rfl ?_
      obtain rfl := Option.some.inj hf
      exact r_zret hM hH (Or.inr rfl) (Or.inr rfl) ⟨(Nat.le_of_ble_eq_true rfl), (Nat.le_of_ble_eq_true rfl)⟩ dX9_steps_194
  · have hf := gneg' h_3 hf
    refine lv_aload_n hM.fx.1 hM.fx.2.1 dX9_steps_128 rfl (lv_at hl 0 rfl) ?_
    refine lv_iload_n hM.fx.1 hM.fx.2.1 dX9_steps_129 rfl (lv_at hl 1 rfl) ?_
    refine lv_iconst (v := gi (0)) hM.fx.1 hM.fx.2.1 dX9_steps_130 rfl ?_
    refine lv_iconst (v := gi (1)) hM.fx.1 hM.fx.2.1 dX9_steps_131 rfl ?_
    obtain ⟨M_18, eM_18, hf⟩ := gbd hf
    refine r_go0 hH rfl (r_runV (As := [.int (gi x1), .int (gi 0), .int (gi 1)]) hM hH cv_X9_42 (mX9_sets hLC hM.ns hg0 hr1 (gcR (k := 0) (by decide)) (gcR (k := 1) (by decide)) eM_18) (hLC.in hg0 (by decide)) (by decide) rfl rfl rfl hl.1 rfl (Nat.le_of_ble_eq_true rfl) ⟨(Nat.le_of_ble_eq_true rfl), (Nat.le_of_ble_eq_true rfl)⟩ ⟨(Nat.le_of_ble_eq_true rfl), (Nat.le_of_ble_eq_true rfl)⟩ dX9_steps_132) (fun hp_17 H locs hH => ?_)
    refine lv_goto (tgt := 193) hM.fx.1 hM.fx.2.1 dX9_steps_135 (by decide) ?_
    refine lv_iconst (v := gi (1)) hM.fx.1 hM.fx.2.1 dX9_steps_193 rfl ?_
    obtain rfl := Option.some.inj hf
    exact r_zret hM hH (Or.inr rfl) (Or.inr rfl) ⟨(Nat.le_of_ble_eq_true rfl), (Nat.le_of_ble_eq_true rfl)⟩ dX9_steps_194
def fX9_steps_107 (g : Nat → Nat)  (a0 : Nat) (x1 : Int) (x2 : Int) (x3 : Int) (x4 : Int) (as0 : Nat) (xs1 : Int) (xs2 : Int) (M : gMem) : Option (Int × gMem) :=
  if x4 ≤ 0 then (fX9_steps_121 g a0 x1 x2 x3 x4 as0 xs1 xs2 0 M) else (fX9_steps_121 g a0 x1 x2 x3 x4 as0 xs1 xs2 (gwi (10 + x4)) M)
set_option maxHeartbeats 4000000 in
set_option maxRecDepth 100000 in
theorem wX9_steps_107 {w : gW} {n : Nat} {Rm : Nat → Nat → Nat} {g : Nat → Nat} (hLC : gLC g n Rm) {p : Program} {l : Launch} {e : Env} {s : State} {m : MethodId} {args : Array Value} {below : List Frame} {meth : Method} {c : Code} (hM : gMC w p l s m args meth c cX9_steps 5 RX9 (some .boolean))  : ∀ (a0 : Nat) (x1 : Int) (x2 : Int) (x3 : Int) (x4 : Int) (as0 : Nat) (xs1 : Int) (xs2 : Int) (M : gMem) (r : (Int × gMem)) (hg0 : g a0 = 9) (hr1 : gRI x1) (hr2 : gRI x2) (hr3 : gRI x3) (hr4 : gRI x4) (hgs0 : g as0 = 9) (hrs1 : gRI xs1) (hrs2 : gRI xs2) (hf : fX9_steps_107 g a0 x1 x2 x3 x4 as0 xs1 xs2 M = some r) (H : Heap) (locs : List Loc) (ls : Array Slot) (hH : gH w n Rm M s H locs) (hl : lv_has ls 5 [(0, .ref (w.1 + a0)), (1, .int (gi x1)), (2, .int (gi x2)), (3, .int (gi x3)), (4, .int (gi x4))]), W p l e { frames := 6, cells := 0, slots := 0, locals := 177 } s m args below meth c H locs 0 0 (gQ w n Rm below args s 0 0 (.inr (some (.int (gi r.1)))) r.2 (r.1 = 0 ∨ r.1 = 1)) (F0 m 107 ls [.int (gi xs2), .int (gi xs1), .ref (w.1 + as0)]) := by
  intro a0 x1 x2 x3 x4 as0 xs1 xs2 M r hg0 hr1 hr2 hr3 hr4 hgs0 hrs1 hrs2 hf H locs ls hH hl
  unfold fX9_steps_107 at hf
  refine lv_iload hM.fx.1 hM.fx.2.1 dX9_steps_107 (lv_at hl 4 rfl) ?_
  refine r_if_le (tgt := 120) hM.fx hr4 dX9_steps_109 (by decide) (fun h_1 => ?_) (fun h_1 => ?_)
  · have hf := gpos h_1 hf
    refine lv_iconst (v := gi (0)) hM.fx.1 hM.fx.2.1 dX9_steps_120 rfl ?_
    exact wX9_steps_121 hLC hM   _ _ _ _ _ _ _ _ _ _ _ hg0 hr1 hr2 hr3 hr4 hgs0 hrs1 hrs2 (gcR (k := 0) (by decide)) hf _ _ _ hH hl
  · have hf := gneg' h_1 hf
    refine lv_bipush (v := gi (10)) hM.fx.1 hM.fx.2.1 dX9_steps_112 (by decide) ?_
    refine lv_iload hM.fx.1 hM.fx.2.1 dX9_steps_114 (lv_at hl 4 rfl) ?_
    refine r_iadd hM.fx dX9_steps_116 ?_
    refine lv_goto (tgt := 121) hM.fx.1 hM.fx.2.1 dX9_steps_117 (by decide) ?_
    exact wX9_steps_121 hLC hM   _ _ _ _ _ _ _ _ _ _ _ hg0 hr1 hr2 hr3 hr4 hgs0 hrs1 hrs2 (gwi_r _) hf _ _ _ hH hl
def fX9_steps_80 (g : Nat → Nat)  (a0 : Nat) (x1 : Int) (x2 : Int) (x3 : Int) (x4 : Int) (M : gMem) : Option (Int × gMem) :=
  (fX9_of g a0 x1 7 M).bind fun x_2 => (fX9_sets g a0 x1 7 (gwi (x_2 + 1)) M).bind fun M_4 => if x3 = 0 then (fX9_steps_107 g a0 x1 x2 x3 x4 a0 x1 x2 M_4) else (fX9_steps_107 g a0 x1 x2 x3 x4 a0 x1 ((-1)) M_4)
set_option maxHeartbeats 4000000 in
set_option maxRecDepth 100000 in
theorem wX9_steps_80 {w : gW} {n : Nat} {Rm : Nat → Nat → Nat} {g : Nat → Nat} (hLC : gLC g n Rm) {p : Program} {l : Launch} {e : Env} {s : State} {m : MethodId} {args : Array Value} {below : List Frame} {meth : Method} {c : Code} (hM : gMC w p l s m args meth c cX9_steps 5 RX9 (some .boolean))  : ∀ (a0 : Nat) (x1 : Int) (x2 : Int) (x3 : Int) (x4 : Int) (M : gMem) (r : (Int × gMem)) (hg0 : g a0 = 9) (hr1 : gRI x1) (hr2 : gRI x2) (hr3 : gRI x3) (hr4 : gRI x4) (hf : fX9_steps_80 g a0 x1 x2 x3 x4 M = some r) (H : Heap) (locs : List Loc) (ls : Array Slot) (hH : gH w n Rm M s H locs) (hl : lv_has ls 5 [(0, .ref (w.1 + a0)), (1, .int (gi x1)), (2, .int (gi x2)), (3, .int (gi x3)), (4, .int (gi x4))]), W p l e { frames := 6, cells := 0, slots := 0, locals := 177 } s m args below meth c H locs 0 0 (gQ w n Rm below args s 0 0 (.inr (some (.int (gi r.1)))) r.2 (r.1 = 0 ∨ r.1 = 1)) (F0 m 80 ls []) := by
  intro a0 x1 x2 x3 x4 M r hg0 hr1 hr2 hr3 hr4 hf H locs ls hH hl
  unfold fX9_steps_80 at hf
  refine lv_aload_n hM.fx.1 hM.fx.2.1 dX9_steps_80 rfl (lv_at hl 0 rfl) ?_
  refine lv_iload_n hM.fx.1 hM.fx.2.1 dX9_steps_81 rfl (lv_at hl 1 rfl) ?_
  refine lv_bipush (v := gi (7)) hM.fx.1 hM.fx.2.1 dX9_steps_82 (by decide) ?_
  refine lv_aload_n hM.fx.1 hM.fx.2.1 dX9_steps_84 rfl (lv_at hl 0 rfl) ?_
  refine lv_iload_n hM.fx.1 hM.fx.2.1 dX9_steps_85 rfl (lv_at hl 1 rfl) ?_
  refine lv_bipush (v := gi (7)) hM.fx.1 hM.fx.2.1 dX9_steps_86 (by decide) ?_
  obtain ⟨x_2, ex_2, hf⟩ := gbd hf
  refine r_go1 hH rfl (r_runV (As := [.int (gi x1), .int (gi 7)]) hM hH cv_X9_135 (mX9_of hLC hM.ns hg0 hr1 (gcR (k := 7) (by decide)) ex_2) (hLC.in hg0 (by decide)) (by decide) rfl rfl rfl hl.1 rfl (Nat.le_of_ble_eq_true rfl) ⟨(Nat.le_of_ble_eq_true rfl), (Nat.le_of_ble_eq_true rfl)⟩ ⟨(Nat.le_of_ble_eq_true rfl), (Nat.le_of_ble_eq_true rfl)⟩ dX9_steps_88) (fun hp_1 H locs hH => ?_)
  refine lv_iconst (v := gi (1)) hM.fx.1 hM.fx.2.1 dX9_steps_91 rfl ?_
  refine r_iadd hM.fx dX9_steps_92 ?_
  obtain ⟨M_4, eM_4, hf⟩ := gbd hf
  refine r_go0 hH rfl (r_runV (As := [.int (gi x1), .int (gi 7), .int (gi (gwi (x_2 + 1)))]) hM hH cv_X9_42 (mX9_sets hLC hM.ns hg0 hr1 (gcR (k := 7) (by decide)) (gwi_r _) eM_4) (hLC.in hg0 (by decide)) (by decide) rfl rfl rfl hl.1 rfl (Nat.le_of_ble_eq_true rfl) ⟨(Nat.le_of_ble_eq_true rfl), (Nat.le_of_ble_eq_true rfl)⟩ ⟨(Nat.le_of_ble_eq_true rfl), (Nat.le_of_ble_eq_true rfl)⟩ dX9_steps_93) (fun hp_3 H locs hH => ?_)
  refine lv_aload_n hM.fx.1 hM.fx.2.1 dX9_steps_96 rfl (lv_at hl 0 rfl) ?_
  refine lv_iload_n hM.fx.1 hM.fx.2.1 dX9_steps_97 rfl (lv_at hl 1 rfl) ?_
  refine lv_iload_n hM.fx.1 hM.fx.2.1 dX9_steps_98 rfl (lv_at hl 3 rfl) ?_
  refine r_if_eq (tgt := 106) hM.fx hr3 dX9_steps_99 (by decide) (fun h_5 => ?_) (fun h_5 => ?_)
  · have hf := gpos h_5 hf
    refine lv_iload_n hM.fx.1 hM.fx.2.1 dX9_steps_106 rfl (lv_at hl 2 rfl) ?_
    exact wX9_steps_107 hLC hM   _ _ _ _ _ _ _ _ _ _ hg0 hr1 hr2 hr3 hr4 hg0 hr1 hr2 hf _ _ _ hH hl
  · have hf := gneg' h_5 hf
    refine lv_iconst (v := gi (-1)) hM.fx.1 hM.fx.2.1 dX9_steps_102 rfl ?_
    refine lv_goto (tgt := 107) hM.fx.1 hM.fx.2.1 dX9_steps_103 (by decide) ?_
    exact wX9_steps_107 hLC hM   _ _ _ _ _ _ _ _ _ _ hg0 hr1 hr2 hr3 hr4 hg0 hr1 (gcR (k := -1) (by decide)) hf _ _ _ hH hl
def fX9_steps_36 (g : Nat → Nat)  (a0 : Nat) (x1 : Int) (x2 : Int) (x3 : Int) (xs0 : Int) (M : gMem) : Option (Int × gMem) :=
  if x3 = 0 then (if xs0 = 0 then ((fX9_blockOf g a0 x1 M).bind fun x_4 => if x_4 ≤ 0 then (fX9_steps_80 g a0 x1 x2 x3 xs0 M) else ((fX9_of g a0 x1 8 M).bind fun x_7 => (fX9_sets g a0 x1 8 (gwi (x_7 + 1)) M).bind fun M_9 => (fX9_traces g a0 x1 x2 1 M_9).bind fun M_11 => some (0, M_11))) else (fX9_steps_80 g a0 x1 x2 x3 xs0 M)) else (fX9_steps_80 g a0 x1 x2 x3 xs0 M)
set_option maxHeartbeats 4000000 in
set_option maxRecDepth 100000 in
theorem wX9_steps_36 {w : gW} {n : Nat} {Rm : Nat → Nat → Nat} {g : Nat → Nat} (hLC : gLC g n Rm) {p : Program} {l : Launch} {e : Env} {s : State} {m : MethodId} {args : Array Value} {below : List Frame} {meth : Method} {c : Code} (hM : gMC w p l s m args meth c cX9_steps 5 RX9 (some .boolean))  : ∀ (a0 : Nat) (x1 : Int) (x2 : Int) (x3 : Int) (xs0 : Int) (M : gMem) (r : (Int × gMem)) (hg0 : g a0 = 9) (hr1 : gRI x1) (hr2 : gRI x2) (hr3 : gRI x3) (hrs0 : gRI xs0) (hf : fX9_steps_36 g a0 x1 x2 x3 xs0 M = some r) (H : Heap) (locs : List Loc) (ls : Array Slot) (hH : gH w n Rm M s H locs) (hl : lv_has ls 5 [(0, .ref (w.1 + a0)), (1, .int (gi x1)), (2, .int (gi x2)), (3, .int (gi x3))]), W p l e { frames := 6, cells := 0, slots := 0, locals := 177 } s m args below meth c H locs 0 0 (gQ w n Rm below args s 0 0 (.inr (some (.int (gi r.1)))) r.2 (r.1 = 0 ∨ r.1 = 1)) (F0 m 36 ls [.int (gi xs0)]) := by
  intro a0 x1 x2 x3 xs0 M r hg0 hr1 hr2 hr3 hrs0 hf H locs ls hH hl
  unfold fX9_steps_36 at hf
  refine lv_istore (lv' := [(4, .int (gi xs0)), (0, .ref (w.1 + a0)), (1, .int (gi x1)), (2, .int (gi x2)), (3, .int (gi x3))]) hM.fx.1 hM.fx.2.1 dX9_steps_36 hl (by decide) rfl (fun ls hl => ?_)
  refine lv_iload_n hM.fx.1 hM.fx.2.1 dX9_steps_38 rfl (lv_at hl 4 rfl) ?_
  refine r_if_ne (tgt := 80) hM.fx hr3 dX9_steps_39 (by decide) (fun h_1 => ?_) (fun h_1 => ?_)
  · have hf := gneg' h_1 hf
    exact wX9_steps_80 hLC hM   _ _ _ _ _ _ _ hg0 hr1 hr2 hr3 hrs0 hf _ _ _ hH (lv_sub hl [1, 2, 3, 4, 0] rfl)
  · have hf := gpos h_1 hf
    refine lv_iload hM.fx.1 hM.fx.2.1 dX9_steps_42 (lv_at hl 0 rfl) ?_
    refine r_if_ne (tgt := 80) hM.fx hrs0 dX9_steps_44 (by decide) (fun h_2 => ?_) (fun h_2 => ?_)
    · have hf := gneg' h_2 hf
      exact wX9_steps_80 hLC hM   _ _ _ _ _ _ _ hg0 hr1 hr2 hr3 hrs0 hf _ _ _ hH (lv_sub hl [1, 2, 3, 4, 0] rfl)
    · have hf := gpos h_2 hf
      refine lv_aload_n hM.fx.1 hM.fx.2.1 dX9_steps_47 rfl (lv_at hl 1 rfl) ?_
      refine lv_iload_n hM.fx.1 hM.fx.2.1 dX9_steps_48 rfl (lv_at hl 2 rfl) ?_
      obtain ⟨x_4, ex_4, hf⟩ := gbd hf
      refine r_go1 hH rfl (r_runV (As := [.int (gi x1)]) hM hH cv_X9_258 (mX9_blockOf hLC hM.ns hg0 hr1 ex_4) (hLC.in hg0 (by decide)) (by decide) rfl rfl rfl hl.1 rfl (Nat.le_of_ble_eq_true rfl) ⟨(Nat.le_of_ble_eq_true rfl), (Nat.le_of_ble_eq_true rfl)⟩ ⟨(Nat.le_of_ble_eq_true rfl), (Nat.le_of_ble_eq_true rfl)⟩ dX9_steps_49) (fun hp_3 H locs hH => ?_)
      refine r_if_le (tgt := 80) hM.fx hp_3 dX9_steps_52 (by decide) (fun h_5 => ?_) (fun h_5 => ?_)
      · have hf := gpos h_5 hf
        exact wX9_steps_80 hLC hM   _ _ _ _ _ _ _ hg0 hr1 hr2 hr3 hrs0 hf _ _ _ hH (lv_sub hl [1, 2, 3, 4, 0] rfl)
      · have hf := gneg' h_5 hf
        refine lv_aload_n hM.fx.1 hM.fx.2.1 dX9_steps_55 rfl (lv_at hl 1 rfl) ?_
        refine lv_iload_n hM.fx.1 hM.fx.2.1 dX9_steps_56 rfl (lv_at hl 2 rfl) ?_
        refine lv_bipush (v := gi (8)) hM.fx.1 hM.fx.2.1 dX9_steps_57 (by decide) ?_
        refine lv_aload_n hM.fx.1 hM.fx.2.1 dX9_steps_59 rfl (lv_at hl 1 rfl) ?_
        refine lv_iload_n hM.fx.1 hM.fx.2.1 dX9_steps_60 rfl (lv_at hl 2 rfl) ?_
        refine lv_bipush (v := gi (8)) hM.fx.1 hM.fx.2.1 dX9_steps_61 (by decide) ?_
        obtain ⟨x_7, ex_7, hf⟩ := gbd hf
        refine r_go1 hH rfl (r_runV (As := [.int (gi x1), .int (gi 8)]) hM hH cv_X9_135 (mX9_of hLC hM.ns hg0 hr1 (gcR (k := 8) (by decide)) ex_7) (hLC.in hg0 (by decide)) (by decide) rfl rfl rfl hl.1 rfl (Nat.le_of_ble_eq_true rfl) ⟨(Nat.le_of_ble_eq_true rfl), (Nat.le_of_ble_eq_true rfl)⟩ ⟨(Nat.le_of_ble_eq_true rfl), (Nat.le_of_ble_eq_true rfl)⟩ dX9_steps_63) (fun hp_6 H locs hH => ?_)
        refine lv_iconst (v := gi (1)) hM.fx.1 hM.fx.2.1 dX9_steps_66 rfl ?_
        refine r_iadd hM.fx dX9_steps_67 ?_
        obtain ⟨M_9, eM_9, hf⟩ := gbd hf
        refine r_go0 hH rfl (r_runV (As := [.int (gi x1), .int (gi 8), .int (gi (gwi (x_7 + 1)))]) hM hH cv_X9_42 (mX9_sets hLC hM.ns hg0 hr1 (gcR (k := 8) (by decide)) (gwi_r _) eM_9) (hLC.in hg0 (by decide)) (by decide) rfl rfl rfl hl.1 rfl (Nat.le_of_ble_eq_true rfl) ⟨(Nat.le_of_ble_eq_true rfl), (Nat.le_of_ble_eq_true rfl)⟩ ⟨(Nat.le_of_ble_eq_true rfl), (Nat.le_of_ble_eq_true rfl)⟩ dX9_steps_68) (fun hp_8 H locs hH => ?_)
        refine lv_aload_n hM.fx.1 hM.fx.2.1 dX9_steps_71 rfl (lv_at hl 1 rfl) ?_
        refine lv_iload_n hM.fx.1 hM.fx.2.1 dX9_steps_72 rfl (lv_at hl 2 rfl) ?_
        refine lv_iload_n hM.fx.1 hM.fx.2.1 dX9_steps_73 rfl (lv_at hl 3 rfl) ?_
        refine lv_iconst (v := gi (1)) hM.fx.1 hM.fx.2.1 dX9_steps_74 rfl ?_
        obtain ⟨M_11, eM_11, hf⟩ := gbd hf
        refine r_go0 hH rfl (r_runV (As := [.int (gi x1), .int (gi x2), .int (gi 1)]) hM hH cv_X9_294 (mX9_traces hLC hM.ns hg0 hr1 hr2 (gcR (k := 1) (by decide)) eM_11) (hLC.in hg0 (by decide)) (by decide) rfl rfl rfl hl.1 rfl (Nat.le_of_ble_eq_true rfl) ⟨(Nat.le_of_ble_eq_true rfl), (Nat.le_of_ble_eq_true rfl)⟩ ⟨(Nat.le_of_ble_eq_true rfl), (Nat.le_of_ble_eq_true rfl)⟩ dX9_steps_75) (fun hp_10 H locs hH => ?_)
        refine lv_iconst (v := gi (0)) hM.fx.1 hM.fx.2.1 dX9_steps_78 rfl ?_
        obtain rfl := Option.some.inj hf
        exact r_zret hM hH (Or.inl rfl) (Or.inl rfl) ⟨(Nat.le_of_ble_eq_true rfl), (Nat.le_of_ble_eq_true rfl)⟩ dX9_steps_79
def fX9_steps_22 (g : Nat → Nat)  (a0 : Nat) (x1 : Int) (x2 : Int) (xs0 : Int) (M : gMem) : Option (Int × gMem) :=
  if xs0 = 0 then ((fX9_faultOf g a0 x1 M).bind fun x_3 => fX9_steps_36 g a0 x1 x2 xs0 x_3 M) else (fX9_steps_36 g a0 x1 x2 xs0 0 M)
set_option maxHeartbeats 4000000 in
set_option maxRecDepth 100000 in
theorem wX9_steps_22 {w : gW} {n : Nat} {Rm : Nat → Nat → Nat} {g : Nat → Nat} (hLC : gLC g n Rm) {p : Program} {l : Launch} {e : Env} {s : State} {m : MethodId} {args : Array Value} {below : List Frame} {meth : Method} {c : Code} (hM : gMC w p l s m args meth c cX9_steps 5 RX9 (some .boolean))  : ∀ (a0 : Nat) (x1 : Int) (x2 : Int) (xs0 : Int) (M : gMem) (r : (Int × gMem)) (hg0 : g a0 = 9) (hr1 : gRI x1) (hr2 : gRI x2) (hrs0 : gRI xs0) (hf : fX9_steps_22 g a0 x1 x2 xs0 M = some r) (H : Heap) (locs : List Loc) (ls : Array Slot) (hH : gH w n Rm M s H locs) (hl : lv_has ls 5 [(0, .ref (w.1 + a0)), (1, .int (gi x1)), (2, .int (gi x2))]), W p l e { frames := 6, cells := 0, slots := 0, locals := 177 } s m args below meth c H locs 0 0 (gQ w n Rm below args s 0 0 (.inr (some (.int (gi r.1)))) r.2 (r.1 = 0 ∨ r.1 = 1)) (F0 m 22 ls [.int (gi xs0)]) := by
  intro a0 x1 x2 xs0 M r hg0 hr1 hr2 hrs0 hf H locs ls hH hl
  unfold fX9_steps_22 at hf
  refine lv_istore_n (lv' := [(3, .int (gi xs0)), (0, .ref (w.1 + a0)), (1, .int (gi x1)), (2, .int (gi x2))]) hM.fx.1 hM.fx.2.1 dX9_steps_22 rfl hl (by decide) rfl (fun ls hl => ?_)
  refine lv_iload_n hM.fx.1 hM.fx.2.1 dX9_steps_23 rfl (lv_at hl 0 rfl) ?_
  refine r_if_eq (tgt := 31) hM.fx hrs0 dX9_steps_24 (by decide) (fun h_1 => ?_) (fun h_1 => ?_)
  · have hf := gpos h_1 hf
    refine lv_aload_n hM.fx.1 hM.fx.2.1 dX9_steps_31 rfl (lv_at hl 1 rfl) ?_
    refine lv_iload_n hM.fx.1 hM.fx.2.1 dX9_steps_32 rfl (lv_at hl 2 rfl) ?_
    obtain ⟨x_3, ex_3, hf⟩ := gbd hf
    refine r_go1 hH rfl (r_runV (As := [.int (gi x1)]) hM hH cv_X9_255 (mX9_faultOf hLC hM.ns hg0 hr1 ex_3) (hLC.in hg0 (by decide)) (by decide) rfl rfl rfl hl.1 rfl (Nat.le_of_ble_eq_true rfl) ⟨(Nat.le_of_ble_eq_true rfl), (Nat.le_of_ble_eq_true rfl)⟩ ⟨(Nat.le_of_ble_eq_true rfl), (Nat.le_of_ble_eq_true rfl)⟩ dX9_steps_33) (fun hp_2 H locs hH => ?_)
    exact wX9_steps_36 hLC hM   _ _ _ _ _ _ _ hg0 hr1 hr2 hrs0 hp_2 hf _ _ _ hH (lv_sub hl [1, 2, 3, 0] rfl)
  · have hf := gneg' h_1 hf
    refine lv_iconst (v := gi (0)) hM.fx.1 hM.fx.2.1 dX9_steps_27 rfl ?_
    refine lv_goto (tgt := 36) hM.fx.1 hM.fx.2.1 dX9_steps_28 (by decide) ?_
    exact wX9_steps_36 hLC hM   _ _ _ _ _ _ _ hg0 hr1 hr2 hrs0 (gcR (k := 0) (by decide)) hf _ _ _ hH (lv_sub hl [1, 2, 3, 0] rfl)
def fX9_steps (g : Nat → Nat) (a0 : Nat) (x1 : Int) (M : gMem) : Option (Int × gMem) :=
  (fX9_of g a0 x1 2 M).bind fun x_2 => (fX9_of g a0 x1 3 M).bind fun x_4 => if x_2 < x_4 then (fX9_steps_22 g a0 x1 x_2 0 M) else (fX9_steps_22 g a0 x1 x_2 1 M)
set_option maxHeartbeats 4000000 in
set_option maxRecDepth 100000 in
theorem mX9_steps {w : gW} {n : Nat} {Rm : Nat → Nat → Nat} {g : Nat → Nat} (hLC : gLC g n Rm) {l : Launch} (hl9 : l.stackTraces = false) {a0 : Nat} {x1 : Int} {M : gMem} {r : (Int × gMem)} (hg0 : g a0 = 9) (hr1 : gRI x1) (hf : fX9_steps g a0 x1 M = some r) : gMT w n Rm l yX9_steps cX9_steps 5 (some .boolean) 6 177 0 0 [.ref (w.1 + a0), .int (gi x1)] M (.inr (some (.int (gi r.1)))) r.2 (r.1 = 0 ∨ r.1 = 1) := by
  unfold fX9_steps at hf
  refine gMT.of hl9 (by decide +kernel) ((Nat.le_of_ble_eq_true rfl)) ?_
  intro p e s m below meth c hM hH ls hl
  have hM : gMC w p l s m ([.ref (w.1 + a0), .int (gi x1)] : List Value).toArray meth c cX9_steps 5 RX9 (some .boolean) := hM
  have hl : lv_has ls 5 [(0, .ref (w.1 + a0)), (1, .int (gi x1))] := hl
  refine lv_aload_n hM.fx.1 hM.fx.2.1 dX9_steps_0 rfl (lv_at hl 0 rfl) ?_
  refine lv_iload_n hM.fx.1 hM.fx.2.1 dX9_steps_1 rfl (lv_at hl 1 rfl) ?_
  refine lv_iconst (v := gi (2)) hM.fx.1 hM.fx.2.1 dX9_steps_2 rfl ?_
  obtain ⟨x_2, ex_2, hf⟩ := gbd hf
  refine r_go1 hH rfl (r_runV (As := [.int (gi x1), .int (gi 2)]) hM hH cv_X9_135 (mX9_of hLC hM.ns hg0 hr1 (gcR (k := 2) (by decide)) ex_2) (hLC.in hg0 (by decide)) (by decide) rfl rfl rfl hl.1 rfl (Nat.le_of_ble_eq_true rfl) ⟨(Nat.le_of_ble_eq_true rfl), (Nat.le_of_ble_eq_true rfl)⟩ ⟨(Nat.le_of_ble_eq_true rfl), (Nat.le_of_ble_eq_true rfl)⟩ dX9_steps_3) (fun hp_1 H locs hH => ?_)
  refine lv_istore_n (lv' := [(2, .int (gi x_2)), (0, .ref (w.1 + a0)), (1, .int (gi x1))]) hM.fx.1 hM.fx.2.1 dX9_steps_6 rfl hl (by decide) rfl (fun ls hl => ?_)
  refine lv_iload_n hM.fx.1 hM.fx.2.1 dX9_steps_7 rfl (lv_at hl 0 rfl) ?_
  refine lv_aload_n hM.fx.1 hM.fx.2.1 dX9_steps_8 rfl (lv_at hl 1 rfl) ?_
  refine lv_iload_n hM.fx.1 hM.fx.2.1 dX9_steps_9 rfl (lv_at hl 2 rfl) ?_
  refine lv_iconst (v := gi (3)) hM.fx.1 hM.fx.2.1 dX9_steps_10 rfl ?_
  obtain ⟨x_4, ex_4, hf⟩ := gbd hf
  refine r_go1 hH rfl (r_runV (As := [.int (gi x1), .int (gi 3)]) hM hH cv_X9_135 (mX9_of hLC hM.ns hg0 hr1 (gcR (k := 3) (by decide)) ex_4) (hLC.in hg0 (by decide)) (by decide) rfl rfl rfl hl.1 rfl (Nat.le_of_ble_eq_true rfl) ⟨(Nat.le_of_ble_eq_true rfl), (Nat.le_of_ble_eq_true rfl)⟩ ⟨(Nat.le_of_ble_eq_true rfl), (Nat.le_of_ble_eq_true rfl)⟩ dX9_steps_11) (fun hp_3 H locs hH => ?_)
  refine r_icmp_lt (tgt := 21) hM.fx hp_1 hp_3 dX9_steps_14 (by decide) (fun h_5 => ?_) (fun h_5 => ?_)
  · have hf := gpos h_5 hf
    refine lv_iconst (v := gi (0)) hM.fx.1 hM.fx.2.1 dX9_steps_21 rfl ?_
    exact wX9_steps_22 hLC hM   _ _ _ _ _ _ hg0 hr1 hp_1 (gcR (k := 0) (by decide)) hf _ _ _ hH (lv_sub hl [1, 2, 0] rfl)
  · have hf := gneg' h_5 hf
    refine lv_iconst (v := gi (1)) hM.fx.1 hM.fx.2.1 dX9_steps_17 rfl ?_
    refine lv_goto (tgt := 22) hM.fx.1 hM.fx.2.1 dX9_steps_18 (by decide) ?_
    exact wX9_steps_22 hLC hM   _ _ _ _ _ _ hg0 hr1 hp_1 (gcR (k := 1) (by decide)) hf _ _ _ hH (lv_sub hl [1, 2, 0] rfl)
def fX9_nextOne_2 (g : Nat → Nat)  : Nat → Nat → Int → gMem → Option Int
  | 0, _, _, _ => none
  | fu + 1, a0, x1, M => if (0 : Int) ≤ 1 ∧ (1 : Int) < 1190 then if M (a0 + 1) (1 : Int).toNat < x1 then (some (-1)) else (if (0 : Int) ≤ 4 ∧ (4 : Int) < 1190 then if (0 : Int) ≤ 1 ∧ (1 : Int) < 1190 then if ¬ M (a0 + 1) (1 : Int).toNat = 0 then gst ((gwi (M (a0 + 1) (4 : Int).toNat + x1)).tmod (M (a0 + 1) (1 : Int).toNat)) fun x_9 => (fX9_isReady g a0 x_9 M).bind fun x_11 => if x_11 = 0 then (gst (gwi (x1 + 1)) fun x_13 => fX9_nextOne_2 g fu a0 x_13 M) else (some x_9) else none else none else none) else none
set_option maxHeartbeats 4000000 in
set_option maxRecDepth 100000 in
theorem wX9_nextOne_2 {w : gW} {n : Nat} {Rm : Nat → Nat → Nat} {g : Nat → Nat} (hLC : gLC g n Rm) {p : Program} {l : Launch} {e : Env} {s : State} {m : MethodId} {args : Array Value} {below : List Frame} {meth : Method} {c : Code} (hM : gMC w p l s m args meth c cX9_nextOne 3 RX9 (some .int))  : ∀ (fu : Nat), ∀ (a0 : Nat) (x1 : Int) (M : gMem) (r : Int) (hg0 : g a0 = 9) (hr1 : gRI x1) (hf : fX9_nextOne_2 g fu a0 x1 M = some r) (H : Heap) (locs : List Loc) (ls : Array Slot) (hH : gH w n Rm M s H locs) (hl : lv_has ls 3 [(0, .ref (w.1 + a0)), (1, .int (gi x1))]), W p l e { frames := 3, cells := 0, slots := 0, locals := 103 } s m args below meth c H locs 0 0 (gQ w n Rm below args s 0 0 (.inr (some (.int (gi r)))) M (gRI r)) (F0 m 2 ls []) := by
  intro fu
  induction fu with
  | zero =>
    intro a0 x1 M r hg0 hr1 hf H locs ls hH hl
    exact absurd hf (by simp [fX9_nextOne_2])
  | succ fu ih =>
    intro a0 x1 M r hg0 hr1 hf H locs ls hH hl
    unfold fX9_nextOne_2 at hf
    refine lv_iload_n hM.fx.1 hM.fx.2.1 dX9_nextOne_2 rfl (lv_at hl 1 rfl) ?_
    refine lv_aload_n hM.fx.1 hM.fx.2.1 dX9_nextOne_3 rfl (lv_at hl 0 rfl) ?_
    refine r_getR hM.fx hM.kf hH hLC fl_X9_7 hg0 gch_9_0 dX9_nextOne_4 ?_
    refine lv_iconst (v := gi (1)) hM.fx.1 hM.fx.2.1 dX9_nextOne_7 rfl ?_
    obtain ⟨g_1, hf⟩ := gif hf
    refine r_iald hM.fx hM.kf hH (hLC.in (hLC.ch hg0 (by decide) gch_9_0) (by decide)) (⟨by decide, by decide⟩ : gAr 19056 0) (gcR (k := 1) (by decide)) g_1 dX9_nextOne_8 ?_
    have hr_2 := hH.2.2.i (k := (1 : Int).toNat) (hLC.in (hLC.ch hg0 (by decide) gch_9_0) (by decide)).2.2 (glg_a (⟨by decide, by decide⟩ : gAr 19056 0))
    refine r_icmp_gt (tgt := 44) hM.fx hr1 hr_2 dX9_nextOne_9 (by decide) (fun h_3 => ?_) (fun h_3 => ?_)
    · have hf := gpos h_3 hf
      refine lv_iconst (v := gi (-1)) hM.fx.1 hM.fx.2.1 dX9_nextOne_44 rfl ?_
      obtain rfl := Option.some.inj hf
      exact r_iret hM hH (gcR (k := -1) (by decide)) ⟨(Nat.le_of_ble_eq_true rfl), (Nat.le_of_ble_eq_true rfl)⟩ dX9_nextOne_45
    · have hf := gneg' h_3 hf
      refine lv_aload_n hM.fx.1 hM.fx.2.1 dX9_nextOne_12 rfl (lv_at hl 0 rfl) ?_
      refine r_getR hM.fx hM.kf hH hLC fl_X9_7 hg0 gch_9_0 dX9_nextOne_13 ?_
      refine lv_iconst (v := gi (4)) hM.fx.1 hM.fx.2.1 dX9_nextOne_16 rfl ?_
      obtain ⟨g_4, hf⟩ := gif hf
      refine r_iald hM.fx hM.kf hH (hLC.in (hLC.ch hg0 (by decide) gch_9_0) (by decide)) (⟨by decide, by decide⟩ : gAr 19056 0) (gcR (k := 4) (by decide)) g_4 dX9_nextOne_17 ?_
      have hr_5 := hH.2.2.i (k := (4 : Int).toNat) (hLC.in (hLC.ch hg0 (by decide) gch_9_0) (by decide)).2.2 (glg_a (⟨by decide, by decide⟩ : gAr 19056 0))
      refine lv_iload_n hM.fx.1 hM.fx.2.1 dX9_nextOne_18 rfl (lv_at hl 1 rfl) ?_
      refine r_iadd hM.fx dX9_nextOne_19 ?_
      refine lv_aload_n hM.fx.1 hM.fx.2.1 dX9_nextOne_20 rfl (lv_at hl 0 rfl) ?_
      refine r_getR hM.fx hM.kf hH hLC fl_X9_7 hg0 gch_9_0 dX9_nextOne_21 ?_
      refine lv_iconst (v := gi (1)) hM.fx.1 hM.fx.2.1 dX9_nextOne_24 rfl ?_
      obtain ⟨g_6, hf⟩ := gif hf
      refine r_iald hM.fx hM.kf hH (hLC.in (hLC.ch hg0 (by decide) gch_9_0) (by decide)) (⟨by decide, by decide⟩ : gAr 19056 0) (gcR (k := 1) (by decide)) g_6 dX9_nextOne_25 ?_
      have hr_7 := hH.2.2.i (k := (1 : Int).toNat) (hLC.in (hLC.ch hg0 (by decide) gch_9_0) (by decide)).2.2 (glg_a (⟨by decide, by decide⟩ : gAr 19056 0))
      obtain ⟨g_8, hf⟩ := gif hf
      refine r_irem hM.fx (gwi_r _) hr_7 g_8 dX9_nextOne_26 ?_
      obtain ⟨x_9, ex_9, hf⟩ := gst_s hf
      refine W.eq (g2 := F0 m _ ls (.int (gi x_9) :: _)) (by rw [ex_9]) ?_
      have hx_9 : gRI x_9 := by rw [ex_9]; exact (gtmod_r (gwi_r _))
      refine lv_istore_n (lv' := [(2, .int (gi x_9)), (0, .ref (w.1 + a0)), (1, .int (gi x1))]) hM.fx.1 hM.fx.2.1 dX9_nextOne_27 rfl hl (by decide) rfl (fun ls hl => ?_)
      refine lv_aload_n hM.fx.1 hM.fx.2.1 dX9_nextOne_28 rfl (lv_at hl 1 rfl) ?_
      refine lv_iload_n hM.fx.1 hM.fx.2.1 dX9_nextOne_29 rfl (lv_at hl 0 rfl) ?_
      obtain ⟨x_11, ex_11, hf⟩ := gbd hf
      refine r_go1 hH rfl (r_runV (As := [.int (gi x_9)]) hM hH cv_X9_252 (mX9_isReady hLC hM.ns hg0 hx_9 ex_11) (hLC.in hg0 (by decide)) (by decide) rfl rfl rfl hl.1 rfl (Nat.le_of_ble_eq_true rfl) ⟨(Nat.le_of_ble_eq_true rfl), (Nat.le_of_ble_eq_true rfl)⟩ ⟨(Nat.le_of_ble_eq_true rfl), (Nat.le_of_ble_eq_true rfl)⟩ dX9_nextOne_30) (fun hp_10 H locs hH => ?_)
      refine r_if_eq (tgt := 38) hM.fx (gz_r hp_10) dX9_nextOne_33 (by decide) (fun h_12 => ?_) (fun h_12 => ?_)
      · have hf := gpos h_12 hf
        obtain ⟨x_13, ex_13, hf⟩ := gst_s hf
        have hx_13 : gRI x_13 := by rw [ex_13]; exact gwi_r _
        refine r_iinc (lv' := [(1, .int (gi x_13)), (2, .int (gi x_9)), (0, .ref (w.1 + a0))]) hM.fx dX9_nextOne_38 hl (k := 2) rfl (by decide) (by rw [ex_13]; rfl) (fun ls hl => ?_)
        refine lv_goto (tgt := 2) hM.fx.1 hM.fx.2.1 dX9_nextOne_41 (by decide) ?_
        exact ih _ _ _ _ hg0 hx_13 hf _ _ _ hH (lv_sub hl [2, 0] rfl)
      · have hf := gneg' h_12 hf
        refine lv_iload_n hM.fx.1 hM.fx.2.1 dX9_nextOne_36 rfl (lv_at hl 0 rfl) ?_
        obtain rfl := Option.some.inj hf
        exact r_iret hM hH hx_9 ⟨(Nat.le_of_ble_eq_true rfl), (Nat.le_of_ble_eq_true rfl)⟩ dX9_nextOne_37
def fX9_nextOne (g : Nat → Nat) (a0 : Nat) (M : gMem) : Option Int :=
  fX9_nextOne_2 g gF a0 1 M
set_option maxHeartbeats 4000000 in
set_option maxRecDepth 100000 in
theorem mX9_nextOne {w : gW} {n : Nat} {Rm : Nat → Nat → Nat} {g : Nat → Nat} (hLC : gLC g n Rm) {l : Launch} (hl9 : l.stackTraces = false) {a0 : Nat} {M : gMem} {r : Int} (hg0 : g a0 = 9) (hf : fX9_nextOne g a0 M = some r) : gMT w n Rm l yX9_nextOne cX9_nextOne 3 (some .int) 3 103 0 0 [.ref (w.1 + a0)] M (.inr (some (.int (gi r)))) M (gRI r) := by
  unfold fX9_nextOne at hf
  refine gMT.of hl9 (by decide +kernel) ((Nat.le_of_ble_eq_true rfl)) ?_
  intro p e s m below meth c hM hH ls hl
  have hM : gMC w p l s m ([.ref (w.1 + a0)] : List Value).toArray meth c cX9_nextOne 3 RX9 (some .int) := hM
  have hl : lv_has ls 3 [(0, .ref (w.1 + a0))] := hl
  refine lv_iconst (v := gi (1)) hM.fx.1 hM.fx.2.1 dX9_nextOne_0 rfl ?_
  refine lv_istore_n (lv' := [(1, .int (gi 1)), (0, .ref (w.1 + a0))]) hM.fx.1 hM.fx.2.1 dX9_nextOne_1 rfl hl (by decide) rfl (fun ls hl => ?_)
  exact wX9_nextOne_2 hLC hM  gF _ _ _ _ hg0 (gcR (k := 1) (by decide)) hf _ _ _ hH (lv_sub hl [1, 0] rfl)
def fX9_turns_38 (g : Nat → Nat)  (a0 : Nat) (x1 : Int) (M : gMem) : Option gMem :=
  (fX9_of g a0 x1 6 M).bind fun x_2 => (fX9_sets g a0 x1 6 (gwi (x_2 + 1)) M).bind fun M_4 => if (0 : Int) ≤ 4 ∧ (4 : Int) < 1190 then gst (gup M_4 (a0 + 1) (4 : Int).toNat x1) fun M_6 => if (0 : Int) ≤ 3 ∧ (3 : Int) < 1190 then if (0 : Int) ≤ 3 ∧ (3 : Int) < 1190 then gst (gup M_6 (a0 + 1) (3 : Int).toNat (gwi (M_6 (a0 + 1) (3 : Int).toNat + 1))) fun M_10 => some M_10 else none else none else none
set_option maxHeartbeats 4000000 in
set_option maxRecDepth 100000 in
theorem wX9_turns_38 {w : gW} {n : Nat} {Rm : Nat → Nat → Nat} {g : Nat → Nat} (hLC : gLC g n Rm) {p : Program} {l : Launch} {e : Env} {s : State} {m : MethodId} {args : Array Value} {below : List Frame} {meth : Method} {c : Code} (hM : gMC w p l s m args meth c cX9_turns 3 RX9 none)  : ∀ (a0 : Nat) (x1 : Int) (M : gMem) (r : gMem) (hg0 : g a0 = 9) (hr1 : gRI x1) (hf : fX9_turns_38 g a0 x1 M = some r) (H : Heap) (locs : List Loc) (ls : Array Slot) (hH : gH w n Rm M s H locs) (hl : lv_has ls 3 [(0, .ref (w.1 + a0)), (1, .int (gi x1))]), W p l e { frames := 7, cells := 0, slots := 0, locals := 201 } s m args below meth c H locs 0 0 (gQ w n Rm below args s 0 0 (.inr none) r True) (F0 m 38 ls []) := by
  intro a0 x1 M r hg0 hr1 hf H locs ls hH hl
  unfold fX9_turns_38 at hf
  refine lv_aload_n hM.fx.1 hM.fx.2.1 dX9_turns_38 rfl (lv_at hl 0 rfl) ?_
  refine lv_iload_n hM.fx.1 hM.fx.2.1 dX9_turns_39 rfl (lv_at hl 1 rfl) ?_
  refine lv_bipush (v := gi (6)) hM.fx.1 hM.fx.2.1 dX9_turns_40 (by decide) ?_
  refine lv_aload_n hM.fx.1 hM.fx.2.1 dX9_turns_42 rfl (lv_at hl 0 rfl) ?_
  refine lv_iload_n hM.fx.1 hM.fx.2.1 dX9_turns_43 rfl (lv_at hl 1 rfl) ?_
  refine lv_bipush (v := gi (6)) hM.fx.1 hM.fx.2.1 dX9_turns_44 (by decide) ?_
  obtain ⟨x_2, ex_2, hf⟩ := gbd hf
  refine r_go1 hH rfl (r_runV (As := [.int (gi x1), .int (gi 6)]) hM hH cv_X9_135 (mX9_of hLC hM.ns hg0 hr1 (gcR (k := 6) (by decide)) ex_2) (hLC.in hg0 (by decide)) (by decide) rfl rfl rfl hl.1 rfl (Nat.le_of_ble_eq_true rfl) ⟨(Nat.le_of_ble_eq_true rfl), (Nat.le_of_ble_eq_true rfl)⟩ ⟨(Nat.le_of_ble_eq_true rfl), (Nat.le_of_ble_eq_true rfl)⟩ dX9_turns_46) (fun hp_1 H locs hH => ?_)
  refine lv_iconst (v := gi (1)) hM.fx.1 hM.fx.2.1 dX9_turns_49 rfl ?_
  refine r_iadd hM.fx dX9_turns_50 ?_
  obtain ⟨M_4, eM_4, hf⟩ := gbd hf
  refine r_go0 hH rfl (r_runV (As := [.int (gi x1), .int (gi 6), .int (gi (gwi (x_2 + 1)))]) hM hH cv_X9_42 (mX9_sets hLC hM.ns hg0 hr1 (gcR (k := 6) (by decide)) (gwi_r _) eM_4) (hLC.in hg0 (by decide)) (by decide) rfl rfl rfl hl.1 rfl (Nat.le_of_ble_eq_true rfl) ⟨(Nat.le_of_ble_eq_true rfl), (Nat.le_of_ble_eq_true rfl)⟩ ⟨(Nat.le_of_ble_eq_true rfl), (Nat.le_of_ble_eq_true rfl)⟩ dX9_turns_51) (fun hp_3 H locs hH => ?_)
  refine lv_aload_n hM.fx.1 hM.fx.2.1 dX9_turns_54 rfl (lv_at hl 0 rfl) ?_
  refine r_getR hM.fx hM.kf hH hLC fl_X9_7 hg0 gch_9_0 dX9_turns_55 ?_
  refine lv_iconst (v := gi (4)) hM.fx.1 hM.fx.2.1 dX9_turns_58 rfl ?_
  refine lv_iload_n hM.fx.1 hM.fx.2.1 dX9_turns_59 rfl (lv_at hl 1 rfl) ?_
  obtain ⟨g_5, hf⟩ := gif hf
  refine r_iast hM.fx hM.kf hH (hLC.in (hLC.ch hg0 (by decide) gch_9_0) (by decide)) (⟨by decide, by decide⟩ : gAr 19056 0) (gcR (k := 4) (by decide)) g_5 hr1 dX9_turns_60 (fun H locs hH => ?_)
  obtain ⟨M_6, eM_6, hf⟩ := gst_s hf
  rw [← eM_6] at hH
  refine lv_aload_n hM.fx.1 hM.fx.2.1 dX9_turns_61 rfl (lv_at hl 0 rfl) ?_
  refine r_getR hM.fx hM.kf hH hLC fl_X9_7 hg0 gch_9_0 dX9_turns_62 ?_
  refine lv_iconst (v := gi (3)) hM.fx.1 hM.fx.2.1 dX9_turns_65 rfl ?_
  refine lv_dup2_11 hM.fx.1 hM.fx.2.1 dX9_turns_66 rfl rfl ?_
  obtain ⟨g_7, hf⟩ := gif hf
  refine r_iald hM.fx hM.kf hH (hLC.in (hLC.ch hg0 (by decide) gch_9_0) (by decide)) (⟨by decide, by decide⟩ : gAr 19056 0) (gcR (k := 3) (by decide)) g_7 dX9_turns_67 ?_
  have hr_8 := hH.2.2.i (k := (3 : Int).toNat) (hLC.in (hLC.ch hg0 (by decide) gch_9_0) (by decide)).2.2 (glg_a (⟨by decide, by decide⟩ : gAr 19056 0))
  refine lv_iconst (v := gi (1)) hM.fx.1 hM.fx.2.1 dX9_turns_68 rfl ?_
  refine r_iadd hM.fx dX9_turns_69 ?_
  obtain ⟨g_9, hf⟩ := gif hf
  refine r_iast hM.fx hM.kf hH (hLC.in (hLC.ch hg0 (by decide) gch_9_0) (by decide)) (⟨by decide, by decide⟩ : gAr 19056 0) (gcR (k := 3) (by decide)) g_9 (gwi_r _) dX9_turns_70 (fun H locs hH => ?_)
  obtain ⟨M_10, eM_10, hf⟩ := gst_s hf
  rw [← eM_10] at hH
  obtain rfl := Option.some.inj hf
  exact r_vret hM hH trivial ⟨(Nat.le_of_ble_eq_true rfl), (Nat.le_of_ble_eq_true rfl)⟩ dX9_turns_71
def fX9_turns_12 (g : Nat → Nat)  : Nat → Nat → Int → Int → gMem → Option gMem
  | 0, _, _, _, _ => none
  | fu + 1, a0, x1, x2, M => if x2 ≤ 0 then (fX9_turns_38 g a0 x1 M) else ((fX9_isReady g a0 x1 M).bind fun x_3 => if x_3 = 0 then (fX9_turns_38 g a0 x1 M) else ((fX9_steps g a0 x1 M).bind fun q_6 => if q_6.1 = 0 then (fX9_turns_38 g a0 x1 q_6.2) else (gst (gwi (x2 + (-1))) fun x_8 => fX9_turns_12 g fu a0 x1 x_8 q_6.2)))
set_option maxHeartbeats 4000000 in
set_option maxRecDepth 100000 in
theorem wX9_turns_12 {w : gW} {n : Nat} {Rm : Nat → Nat → Nat} {g : Nat → Nat} (hLC : gLC g n Rm) {p : Program} {l : Launch} {e : Env} {s : State} {m : MethodId} {args : Array Value} {below : List Frame} {meth : Method} {c : Code} (hM : gMC w p l s m args meth c cX9_turns 3 RX9 none)  : ∀ (fu : Nat), ∀ (a0 : Nat) (x1 : Int) (x2 : Int) (M : gMem) (r : gMem) (hg0 : g a0 = 9) (hr1 : gRI x1) (hr2 : gRI x2) (hf : fX9_turns_12 g fu a0 x1 x2 M = some r) (H : Heap) (locs : List Loc) (ls : Array Slot) (hH : gH w n Rm M s H locs) (hl : lv_has ls 3 [(0, .ref (w.1 + a0)), (1, .int (gi x1)), (2, .int (gi x2))]), W p l e { frames := 7, cells := 0, slots := 0, locals := 201 } s m args below meth c H locs 0 0 (gQ w n Rm below args s 0 0 (.inr none) r True) (F0 m 12 ls []) := by
  intro fu
  induction fu with
  | zero =>
    intro a0 x1 x2 M r hg0 hr1 hr2 hf H locs ls hH hl
    exact absurd hf (by simp [fX9_turns_12])
  | succ fu ih =>
    intro a0 x1 x2 M r hg0 hr1 hr2 hf H locs ls hH hl
    unfold fX9_turns_12 at hf
    refine lv_iload_n hM.fx.1 hM.fx.2.1 dX9_turns_12 rfl (lv_at hl 2 rfl) ?_
    refine r_if_le (tgt := 38) hM.fx hr2 dX9_turns_13 (by decide) (fun h_1 => ?_) (fun h_1 => ?_)
    · have hf := gpos h_1 hf
      exact wX9_turns_38 hLC hM   _ _ _ _ hg0 hr1 hf _ _ _ hH (lv_sub hl [0, 1] rfl)
    · have hf := gneg' h_1 hf
      refine lv_aload_n hM.fx.1 hM.fx.2.1 dX9_turns_16 rfl (lv_at hl 0 rfl) ?_
      refine lv_iload_n hM.fx.1 hM.fx.2.1 dX9_turns_17 rfl (lv_at hl 1 rfl) ?_
      obtain ⟨x_3, ex_3, hf⟩ := gbd hf
      refine r_go1 hH rfl (r_runV (As := [.int (gi x1)]) hM hH cv_X9_252 (mX9_isReady hLC hM.ns hg0 hr1 ex_3) (hLC.in hg0 (by decide)) (by decide) rfl rfl rfl hl.1 rfl (Nat.le_of_ble_eq_true rfl) ⟨(Nat.le_of_ble_eq_true rfl), (Nat.le_of_ble_eq_true rfl)⟩ ⟨(Nat.le_of_ble_eq_true rfl), (Nat.le_of_ble_eq_true rfl)⟩ dX9_turns_18) (fun hp_2 H locs hH => ?_)
      refine r_if_eq (tgt := 38) hM.fx (gz_r hp_2) dX9_turns_21 (by decide) (fun h_4 => ?_) (fun h_4 => ?_)
      · have hf := gpos h_4 hf
        exact wX9_turns_38 hLC hM   _ _ _ _ hg0 hr1 hf _ _ _ hH (lv_sub hl [0, 1] rfl)
      · have hf := gneg' h_4 hf
        refine lv_aload_n hM.fx.1 hM.fx.2.1 dX9_turns_24 rfl (lv_at hl 0 rfl) ?_
        refine lv_iload_n hM.fx.1 hM.fx.2.1 dX9_turns_25 rfl (lv_at hl 1 rfl) ?_
        obtain ⟨q_6, eq_6, hf⟩ := gbd hf
        refine r_go1 hH rfl (r_runV (As := [.int (gi x1)]) hM hH cv_X9_303 (mX9_steps hLC hM.ns hg0 hr1 eq_6) (hLC.in hg0 (by decide)) (by decide) rfl rfl rfl hl.1 rfl (Nat.le_of_ble_eq_true rfl) ⟨(Nat.le_of_ble_eq_true rfl), (Nat.le_of_ble_eq_true rfl)⟩ ⟨(Nat.le_of_ble_eq_true rfl), (Nat.le_of_ble_eq_true rfl)⟩ dX9_turns_26) (fun hp_5 H locs hH => ?_)
        refine r_if_eq (tgt := 38) hM.fx (gz_r hp_5) dX9_turns_29 (by decide) (fun h_7 => ?_) (fun h_7 => ?_)
        · have hf := gpos h_7 hf
          exact wX9_turns_38 hLC hM   _ _ _ _ hg0 hr1 hf _ _ _ hH (lv_sub hl [0, 1] rfl)
        · have hf := gneg' h_7 hf
          obtain ⟨x_8, ex_8, hf⟩ := gst_s hf
          have hx_8 : gRI x_8 := by rw [ex_8]; exact gwi_r _
          refine r_iinc (lv' := [(2, .int (gi x_8)), (0, .ref (w.1 + a0)), (1, .int (gi x1))]) hM.fx dX9_turns_32 hl (k := 2) rfl (by decide) (by rw [ex_8]; rfl) (fun ls hl => ?_)
          refine lv_goto (tgt := 12) hM.fx.1 hM.fx.2.1 dX9_turns_35 (by decide) ?_
          exact ih _ _ _ _ _ hg0 hr1 hx_8 hf _ _ _ hH (lv_sub hl [1, 2, 0] rfl)
def fX9_turns (g : Nat → Nat) (a0 : Nat) (M : gMem) : Option gMem :=
  (fX9_nextOne g a0 M).bind fun x_2 => (fX9_of g a0 x_2 4 M).bind fun x_4 => fX9_turns_12 g gF a0 x_2 x_4 M
set_option maxHeartbeats 4000000 in
set_option maxRecDepth 100000 in
theorem mX9_turns {w : gW} {n : Nat} {Rm : Nat → Nat → Nat} {g : Nat → Nat} (hLC : gLC g n Rm) {l : Launch} (hl9 : l.stackTraces = false) {a0 : Nat} {M : gMem} {r : gMem} (hg0 : g a0 = 9) (hf : fX9_turns g a0 M = some r) : gMT w n Rm l yX9_turns cX9_turns 3 none 7 201 0 0 [.ref (w.1 + a0)] M (.inr none) r True := by
  unfold fX9_turns at hf
  refine gMT.of hl9 (by decide +kernel) ((Nat.le_of_ble_eq_true rfl)) ?_
  intro p e s m below meth c hM hH ls hl
  have hM : gMC w p l s m ([.ref (w.1 + a0)] : List Value).toArray meth c cX9_turns 3 RX9 none := hM
  have hl : lv_has ls 3 [(0, .ref (w.1 + a0))] := hl
  refine lv_aload_n hM.fx.1 hM.fx.2.1 dX9_turns_0 rfl (lv_at hl 0 rfl) ?_
  obtain ⟨x_2, ex_2, hf⟩ := gbd hf
  refine r_go1 hH rfl (r_runV (As := []) hM hH cv_X9_300 (mX9_nextOne hLC hM.ns hg0 ex_2) (hLC.in hg0 (by decide)) (by decide) rfl rfl rfl hl.1 rfl (Nat.le_of_ble_eq_true rfl) ⟨(Nat.le_of_ble_eq_true rfl), (Nat.le_of_ble_eq_true rfl)⟩ ⟨(Nat.le_of_ble_eq_true rfl), (Nat.le_of_ble_eq_true rfl)⟩ dX9_turns_1) (fun hp_1 H locs hH => ?_)
  refine lv_istore_n (lv' := [(1, .int (gi x_2)), (0, .ref (w.1 + a0))]) hM.fx.1 hM.fx.2.1 dX9_turns_4 rfl hl (by decide) rfl (fun ls hl => ?_)
  refine lv_aload_n hM.fx.1 hM.fx.2.1 dX9_turns_5 rfl (lv_at hl 1 rfl) ?_
  refine lv_iload_n hM.fx.1 hM.fx.2.1 dX9_turns_6 rfl (lv_at hl 0 rfl) ?_
  refine lv_iconst (v := gi (4)) hM.fx.1 hM.fx.2.1 dX9_turns_7 rfl ?_
  obtain ⟨x_4, ex_4, hf⟩ := gbd hf
  refine r_go1 hH rfl (r_runV (As := [.int (gi x_2), .int (gi 4)]) hM hH cv_X9_135 (mX9_of hLC hM.ns hg0 hp_1 (gcR (k := 4) (by decide)) ex_4) (hLC.in hg0 (by decide)) (by decide) rfl rfl rfl hl.1 rfl (Nat.le_of_ble_eq_true rfl) ⟨(Nat.le_of_ble_eq_true rfl), (Nat.le_of_ble_eq_true rfl)⟩ ⟨(Nat.le_of_ble_eq_true rfl), (Nat.le_of_ble_eq_true rfl)⟩ dX9_turns_8) (fun hp_3 H locs hH => ?_)
  refine lv_istore_n (lv' := [(2, .int (gi x_4)), (1, .int (gi x_2)), (0, .ref (w.1 + a0))]) hM.fx.1 hM.fx.2.1 dX9_turns_11 rfl hl (by decide) rfl (fun ls hl => ?_)
  exact wX9_turns_12 hLC hM  gF _ _ _ _ _ hg0 hp_1 hp_3 hf _ _ _ hH (lv_sub hl [2, 1, 0] rfl)
def fX9_isOver (g : Nat → Nat) (a0 : Nat) (M : gMem) : Option Int :=
  (fX9_countOf g a0 0 M).bind fun x_2 => if x_2 = 0 then (some 1) else ((fX9_isDeskStuck g a0 M).bind fun x_5 => if x_5 = 0 then (some 0) else (some 1))
set_option maxHeartbeats 4000000 in
set_option maxRecDepth 100000 in
theorem mX9_isOver {w : gW} {n : Nat} {Rm : Nat → Nat → Nat} {g : Nat → Nat} (hLC : gLC g n Rm) {l : Launch} (hl9 : l.stackTraces = false) {a0 : Nat} {M : gMem} {r : Int} (hg0 : g a0 = 9) (hf : fX9_isOver g a0 M = some r) : gMT w n Rm l yX9_isOver cX9_isOver 1 (some .boolean) 7 198 0 0 [.ref (w.1 + a0)] M (.inr (some (.int (gi r)))) M (r = 0 ∨ r = 1) := by
  unfold fX9_isOver at hf
  refine gMT.of hl9 (by decide +kernel) ((Nat.le_of_ble_eq_true rfl)) ?_
  intro p e s m below meth c hM hH ls hl
  have hM : gMC w p l s m ([.ref (w.1 + a0)] : List Value).toArray meth c cX9_isOver 1 RX9 (some .boolean) := hM
  have hl : lv_has ls 1 [(0, .ref (w.1 + a0))] := hl
  refine lv_aload_n hM.fx.1 hM.fx.2.1 dX9_isOver_0 rfl (lv_at hl 0 rfl) ?_
  refine lv_iconst (v := gi (0)) hM.fx.1 hM.fx.2.1 dX9_isOver_1 rfl ?_
  obtain ⟨x_2, ex_2, hf⟩ := gbd hf
  refine r_go1 hH rfl (r_runV (As := [.int (gi 0)]) hM hH cv_X9_264 (mX9_countOf hLC hM.ns hg0 (gcR (k := 0) (by decide)) ex_2) (hLC.in hg0 (by decide)) (by decide) rfl rfl rfl hl.1 rfl (Nat.le_of_ble_eq_true rfl) ⟨(Nat.le_of_ble_eq_true rfl), (Nat.le_of_ble_eq_true rfl)⟩ ⟨(Nat.le_of_ble_eq_true rfl), (Nat.le_of_ble_eq_true rfl)⟩ dX9_isOver_2) (fun hp_1 H locs hH => ?_)
  refine r_if_eq (tgt := 15) hM.fx hp_1 dX9_isOver_5 (by decide) (fun h_3 => ?_) (fun h_3 => ?_)
  · have hf := gpos h_3 hf
    refine lv_iconst (v := gi (1)) hM.fx.1 hM.fx.2.1 dX9_isOver_15 rfl ?_
    refine lv_goto (tgt := 20) hM.fx.1 hM.fx.2.1 dX9_isOver_16 (by decide) ?_
    obtain rfl := Option.some.inj hf
    exact r_zret hM hH (Or.inr rfl) (Or.inr rfl) ⟨(Nat.le_of_ble_eq_true rfl), (Nat.le_of_ble_eq_true rfl)⟩ dX9_isOver_20
  · have hf := gneg' h_3 hf
    refine lv_aload_n hM.fx.1 hM.fx.2.1 dX9_isOver_8 rfl (lv_at hl 0 rfl) ?_
    obtain ⟨x_5, ex_5, hf⟩ := gbd hf
    refine r_go1 hH rfl (r_runV (As := []) hM hH cv_X9_306 (mX9_isDeskStuck hLC hM.ns hg0 ex_5) (hLC.in hg0 (by decide)) (by decide) rfl rfl rfl hl.1 rfl (Nat.le_of_ble_eq_true rfl) ⟨(Nat.le_of_ble_eq_true rfl), (Nat.le_of_ble_eq_true rfl)⟩ ⟨(Nat.le_of_ble_eq_true rfl), (Nat.le_of_ble_eq_true rfl)⟩ dX9_isOver_9) (fun hp_4 H locs hH => ?_)
    refine r_if_eq (tgt := 19) hM.fx (gz_r hp_4) dX9_isOver_12 (by decide) (fun h_6 => ?_) (fun h_6 => ?_)
    · have hf := gpos h_6 hf
      refine lv_iconst (v := gi (0)) hM.fx.1 hM.fx.2.1 dX9_isOver_19 rfl ?_
      obtain rfl := Option.some.inj hf
      exact r_zret hM hH (Or.inl rfl) (Or.inl rfl) ⟨(Nat.le_of_ble_eq_true rfl), (Nat.le_of_ble_eq_true rfl)⟩ dX9_isOver_20
    · have hf := gneg' h_6 hf
      refine lv_iconst (v := gi (1)) hM.fx.1 hM.fx.2.1 dX9_isOver_15 rfl ?_
      refine lv_goto (tgt := 20) hM.fx.1 hM.fx.2.1 dX9_isOver_16 (by decide) ?_
      obtain rfl := Option.some.inj hf
      exact r_zret hM hH (Or.inr rfl) (Or.inr rfl) ⟨(Nat.le_of_ble_eq_true rfl), (Nat.le_of_ble_eq_true rfl)⟩ dX9_isOver_20
def fX9_goesOn_2 (g : Nat → Nat)  : Nat → Nat → Int → Int → gMem → Option (Int × gMem)
  | 0, _, _, _, _ => none
  | fu + 1, a0, x1, x2, M => if x1 ≤ x2 then (some (x2, M)) else ((fX9_isOver g a0 M).bind fun x_3 => if x_3 = 0 then ((fX9_turns g a0 M).bind fun M_6 => gst (gwi (x2 + 1)) fun x_7 => fX9_goesOn_2 g fu a0 x1 x_7 M_6) else (some (x2, M)))
set_option maxHeartbeats 4000000 in
set_option maxRecDepth 100000 in
theorem wX9_goesOn_2 {w : gW} {n : Nat} {Rm : Nat → Nat → Nat} {g : Nat → Nat} (hLC : gLC g n Rm) {p : Program} {l : Launch} {e : Env} {s : State} {m : MethodId} {args : Array Value} {below : List Frame} {meth : Method} {c : Code} (hM : gMC w p l s m args meth c cX9_goesOn 3 RX9 (some .int))  : ∀ (fu : Nat), ∀ (a0 : Nat) (x1 : Int) (x2 : Int) (M : gMem) (r : (Int × gMem)) (hg0 : g a0 = 9) (hr1 : gRI x1) (hr2 : gRI x2) (hf : fX9_goesOn_2 g fu a0 x1 x2 M = some r) (H : Heap) (locs : List Loc) (ls : Array Slot) (hH : gH w n Rm M s H locs) (hl : lv_has ls 3 [(0, .ref (w.1 + a0)), (1, .int (gi x1)), (2, .int (gi x2))]), W p l e { frames := 8, cells := 0, slots := 0, locals := 223 } s m args below meth c H locs 0 0 (gQ w n Rm below args s 0 0 (.inr (some (.int (gi r.1)))) r.2 (gRI r.1)) (F0 m 2 ls []) := by
  intro fu
  induction fu with
  | zero =>
    intro a0 x1 x2 M r hg0 hr1 hr2 hf H locs ls hH hl
    exact absurd hf (by simp [fX9_goesOn_2])
  | succ fu ih =>
    intro a0 x1 x2 M r hg0 hr1 hr2 hf H locs ls hH hl
    unfold fX9_goesOn_2 at hf
    refine lv_iload_n hM.fx.1 hM.fx.2.1 dX9_goesOn_2 rfl (lv_at hl 2 rfl) ?_
    refine lv_iload_n hM.fx.1 hM.fx.2.1 dX9_goesOn_3 rfl (lv_at hl 1 rfl) ?_
    refine r_icmp_ge (tgt := 24) hM.fx hr2 hr1 dX9_goesOn_4 (by decide) (fun h_1 => ?_) (fun h_1 => ?_)
    · have hf := gpos h_1 hf
      refine lv_iload_n hM.fx.1 hM.fx.2.1 dX9_goesOn_24 rfl (lv_at hl 2 rfl) ?_
      obtain rfl := Option.some.inj hf
      exact r_iret hM hH hr2 ⟨(Nat.le_of_ble_eq_true rfl), (Nat.le_of_ble_eq_true rfl)⟩ dX9_goesOn_25
    · have hf := gneg' h_1 hf
      refine lv_aload_n hM.fx.1 hM.fx.2.1 dX9_goesOn_7 rfl (lv_at hl 0 rfl) ?_
      obtain ⟨x_3, ex_3, hf⟩ := gbd hf
      refine r_go1 hH rfl (r_runV (As := []) hM hH cv_X9_310 (mX9_isOver hLC hM.ns hg0 ex_3) (hLC.in hg0 (by decide)) (by decide) rfl rfl rfl hl.1 rfl (Nat.le_of_ble_eq_true rfl) ⟨(Nat.le_of_ble_eq_true rfl), (Nat.le_of_ble_eq_true rfl)⟩ ⟨(Nat.le_of_ble_eq_true rfl), (Nat.le_of_ble_eq_true rfl)⟩ dX9_goesOn_8) (fun hp_2 H locs hH => ?_)
      refine r_if_ne (tgt := 24) hM.fx (gz_r hp_2) dX9_goesOn_11 (by decide) (fun h_4 => ?_) (fun h_4 => ?_)
      · have hf := gneg' h_4 hf
        refine lv_iload_n hM.fx.1 hM.fx.2.1 dX9_goesOn_24 rfl (lv_at hl 2 rfl) ?_
        obtain rfl := Option.some.inj hf
        exact r_iret hM hH hr2 ⟨(Nat.le_of_ble_eq_true rfl), (Nat.le_of_ble_eq_true rfl)⟩ dX9_goesOn_25
      · have hf := gpos h_4 hf
        refine lv_aload_n hM.fx.1 hM.fx.2.1 dX9_goesOn_14 rfl (lv_at hl 0 rfl) ?_
        obtain ⟨M_6, eM_6, hf⟩ := gbd hf
        refine r_go0 hH rfl (r_runV (As := []) hM hH cv_X9_313 (mX9_turns hLC hM.ns hg0 eM_6) (hLC.in hg0 (by decide)) (by decide) rfl rfl rfl hl.1 rfl (Nat.le_of_ble_eq_true rfl) ⟨(Nat.le_of_ble_eq_true rfl), (Nat.le_of_ble_eq_true rfl)⟩ ⟨(Nat.le_of_ble_eq_true rfl), (Nat.le_of_ble_eq_true rfl)⟩ dX9_goesOn_15) (fun hp_5 H locs hH => ?_)
        obtain ⟨x_7, ex_7, hf⟩ := gst_s hf
        have hx_7 : gRI x_7 := by rw [ex_7]; exact gwi_r _
        refine r_iinc (lv' := [(2, .int (gi x_7)), (0, .ref (w.1 + a0)), (1, .int (gi x1))]) hM.fx dX9_goesOn_18 hl (k := 2) rfl (by decide) (by rw [ex_7]; rfl) (fun ls hl => ?_)
        refine lv_goto (tgt := 2) hM.fx.1 hM.fx.2.1 dX9_goesOn_21 (by decide) ?_
        exact ih _ _ _ _ _ hg0 hr1 hx_7 hf _ _ _ hH (lv_sub hl [1, 2, 0] rfl)
def fX9_goesOn (g : Nat → Nat) (a0 : Nat) (x1 : Int) (M : gMem) : Option (Int × gMem) :=
  fX9_goesOn_2 g gF a0 x1 0 M
set_option maxHeartbeats 4000000 in
set_option maxRecDepth 100000 in
theorem mX9_goesOn {w : gW} {n : Nat} {Rm : Nat → Nat → Nat} {g : Nat → Nat} (hLC : gLC g n Rm) {l : Launch} (hl9 : l.stackTraces = false) {a0 : Nat} {x1 : Int} {M : gMem} {r : (Int × gMem)} (hg0 : g a0 = 9) (hr1 : gRI x1) (hf : fX9_goesOn g a0 x1 M = some r) : gMT w n Rm l yX9_goesOn cX9_goesOn 3 (some .int) 8 223 0 0 [.ref (w.1 + a0), .int (gi x1)] M (.inr (some (.int (gi r.1)))) r.2 (gRI r.1) := by
  unfold fX9_goesOn at hf
  refine gMT.of hl9 (by decide +kernel) ((Nat.le_of_ble_eq_true rfl)) ?_
  intro p e s m below meth c hM hH ls hl
  have hM : gMC w p l s m ([.ref (w.1 + a0), .int (gi x1)] : List Value).toArray meth c cX9_goesOn 3 RX9 (some .int) := hM
  have hl : lv_has ls 3 [(0, .ref (w.1 + a0)), (1, .int (gi x1))] := hl
  refine lv_iconst (v := gi (0)) hM.fx.1 hM.fx.2.1 dX9_goesOn_0 rfl ?_
  refine lv_istore_n (lv' := [(2, .int (gi 0)), (0, .ref (w.1 + a0)), (1, .int (gi x1))]) hM.fx.1 hM.fx.2.1 dX9_goesOn_1 rfl hl (by decide) rfl (fun ls hl => ?_)
  exact wX9_goesOn_2 hLC hM  gF _ _ _ _ _ hg0 hr1 (gcR (k := 0) (by decide)) hf _ _ _ hH (lv_sub hl [1, 2, 0] rfl)
def fX9_count_84 (g : Nat → Nat)  (a0 : Nat) (x1 : Int) (M : gMem) : Option (Int × gMem) :=
  if (0 : Int) ≤ x1 ∧ (x1 : Int) < 1190 then some (M (a0 + 1) x1.toNat, M) else none
set_option maxHeartbeats 4000000 in
set_option maxRecDepth 100000 in
theorem wX9_count_84 {w : gW} {n : Nat} {Rm : Nat → Nat → Nat} {g : Nat → Nat} (hLC : gLC g n Rm) {p : Program} {l : Launch} {e : Env} {s : State} {m : MethodId} {args : Array Value} {below : List Frame} {meth : Method} {c : Code} (hM : gMC w p l s m args meth c cX9_count 2 RX9 (some .int))  : ∀ (a0 : Nat) (x1 : Int) (M : gMem) (r : (Int × gMem)) (hg0 : g a0 = 9) (hr1 : gRI x1) (hf : fX9_count_84 g a0 x1 M = some r) (H : Heap) (locs : List Loc) (ls : Array Slot) (hH : gH w n Rm M s H locs) (hl : lv_has ls 2 [(0, .ref (w.1 + a0)), (1, .int (gi x1))]), W p l e { frames := 7, cells := 0, slots := 0, locals := 198 } s m args below meth c H locs 0 0 (gQ w n Rm below args s 0 0 (.inr (some (.int (gi r.1)))) r.2 (gRI r.1)) (F0 m 84 ls []) := by
  intro a0 x1 M r hg0 hr1 hf H locs ls hH hl
  unfold fX9_count_84 at hf
  refine lv_aload_n hM.fx.1 hM.fx.2.1 dX9_count_84 rfl (lv_at hl 0 rfl) ?_
  refine r_getR hM.fx hM.kf hH hLC fl_X9_7 hg0 gch_9_0 dX9_count_85 ?_
  refine lv_iload_n hM.fx.1 hM.fx.2.1 dX9_count_88 rfl (lv_at hl 1 rfl) ?_
  obtain ⟨g_1, hf⟩ := gif hf
  refine r_iald hM.fx hM.kf hH (hLC.in (hLC.ch hg0 (by decide) gch_9_0) (by decide)) (⟨by decide, by decide⟩ : gAr 19056 0) hr1 g_1 dX9_count_89 ?_
  have hr_2 := hH.2.2.i (k := x1.toNat) (hLC.in (hLC.ch hg0 (by decide) gch_9_0) (by decide)).2.2 (glg_a (⟨by decide, by decide⟩ : gAr 19056 0))
  obtain rfl := Option.some.inj hf
  exact r_iret hM hH hr_2 ⟨(Nat.le_of_ble_eq_true rfl), (Nat.le_of_ble_eq_true rfl)⟩ dX9_count_90
def fX9_count_16 (g : Nat → Nat)  (a0 : Nat) (x1 : Int) (as0 : Nat) (xs1 : Int) (M : gMem) : Option (Int × gMem) :=
  gst (gup M as0 7 xs1) fun M_1 => if M_1 a0 7 ≤ 0 then (if x1 = 0 then (fX9_count_84 g a0 x1 M_1) else (if x1 = 1 then (fX9_count_84 g a0 x1 M_1) else (if x1 = 2 then (fX9_count_84 g a0 x1 M_1) else (if x1 = 3 then (fX9_count_84 g a0 x1 M_1) else (if x1 = 4 then ((fX9_countOf g a0 0 M_1).bind fun x_10 => some (x_10, M_1)) else (if x1 = 5 then ((fX9_countOf g a0 1 M_1).bind fun x_13 => some (x_13, M_1)) else (if x1 = 6 then ((fX9_countOf g a0 2 M_1).bind fun x_16 => some (x_16, M_1)) else (if x1 = 7 then ((fX9_sumOf g a0 7 M_1).bind fun x_19 => some (x_19, M_1)) else (if x1 = 8 then (if (0 : Int) ≤ 5 ∧ (5 : Int) < 1190 then some (M_1 (a0 + 1) (5 : Int).toNat, M_1) else none) else (if x1 = 9 then ((fX9_nextOne g a0 M_1).bind fun x_25 => some (x_25, M_1)) else ((fX9_isDeskStuck g a0 M_1).bind fun x_27 => if x_27 = 0 then (some (0, M_1)) else (some (1, M_1))))))))))))) else (some (0, M_1))
set_option maxHeartbeats 4000000 in
set_option maxRecDepth 100000 in
theorem wX9_count_16 {w : gW} {n : Nat} {Rm : Nat → Nat → Nat} {g : Nat → Nat} (hLC : gLC g n Rm) {p : Program} {l : Launch} {e : Env} {s : State} {m : MethodId} {args : Array Value} {below : List Frame} {meth : Method} {c : Code} (hM : gMC w p l s m args meth c cX9_count 2 RX9 (some .int))  : ∀ (a0 : Nat) (x1 : Int) (as0 : Nat) (xs1 : Int) (M : gMem) (r : (Int × gMem)) (hg0 : g a0 = 9) (hr1 : gRI x1) (hgs0 : g as0 = 9) (hrs1 : gRI xs1) (hf : fX9_count_16 g a0 x1 as0 xs1 M = some r) (H : Heap) (locs : List Loc) (ls : Array Slot) (hH : gH w n Rm M s H locs) (hl : lv_has ls 2 [(0, .ref (w.1 + a0)), (1, .int (gi x1))]), W p l e { frames := 7, cells := 0, slots := 0, locals := 198 } s m args below meth c H locs 0 0 (gQ w n Rm below args s 0 0 (.inr (some (.int (gi r.1)))) r.2 (gRI r.1)) (F0 m 16 ls [.int (gi xs1), .ref (w.1 + as0)]) := by
  intro a0 x1 as0 xs1 M r hg0 hr1 hgs0 hrs1 hf H locs ls hH hl
  unfold fX9_count_16 at hf
  refine r_putI hM.fx hM.kf hH fp_X9_46 (hLC.in hgs0 (by decide)) hrs1 dX9_count_16 (fun H locs hH => ?_)
  obtain ⟨M_1, eM_1, hf⟩ := gst_s hf
  rw [← eM_1] at hH
  refine lv_aload_n hM.fx.1 hM.fx.2.1 dX9_count_19 rfl (lv_at hl 0 rfl) ?_
  refine r_getI hM.fx hM.kf hH fl_X9_46 (hLC.in hg0 (by decide)) dX9_count_20 ?_
  have hr_2 := hH.2.2.i (hLC.in hg0 (by decide)).2.2 (by decide : glg 9 7 = false)
  refine r_if_le (tgt := 28) hM.fx hr_2 dX9_count_23 (by decide) (fun h_3 => ?_) (fun h_3 => ?_)
  · have hf := gpos h_3 hf
    refine lv_iload_n hM.fx.1 hM.fx.2.1 dX9_count_28 rfl (lv_at hl 1 rfl) ?_
    by_cases h_4 : x1 = 0
    · refine r_tsIn (tgt := 84) hM.fx hr1 0 dX9_count_29 h_4 (by decide) rfl (by decide) ?_
      have hf := gpos h_4 hf
      exact wX9_count_84 hLC hM   _ _ _ _ hg0 hr1 hf _ _ _ hH hl
    · have hf := gneg' h_4 hf
      by_cases h_5 : x1 = 1
      · refine r_tsIn (tgt := 84) hM.fx hr1 1 dX9_count_29 h_5 (by decide) rfl (by decide) ?_
        have hf := gpos h_5 hf
        exact wX9_count_84 hLC hM   _ _ _ _ hg0 hr1 hf _ _ _ hH hl
      · have hf := gneg' h_5 hf
        by_cases h_6 : x1 = 2
        · refine r_tsIn (tgt := 84) hM.fx hr1 2 dX9_count_29 h_6 (by decide) rfl (by decide) ?_
          have hf := gpos h_6 hf
          exact wX9_count_84 hLC hM   _ _ _ _ hg0 hr1 hf _ _ _ hH hl
        · have hf := gneg' h_6 hf
          by_cases h_7 : x1 = 3
          · refine r_tsIn (tgt := 84) hM.fx hr1 3 dX9_count_29 h_7 (by decide) rfl (by decide) ?_
            have hf := gpos h_7 hf
            exact wX9_count_84 hLC hM   _ _ _ _ hg0 hr1 hf _ _ _ hH hl
          · have hf := gneg' h_7 hf
            by_cases h_8 : x1 = 4
            · refine r_tsIn (tgt := 91) hM.fx hr1 4 dX9_count_29 h_8 (by decide) rfl (by decide) ?_
              have hf := gpos h_8 hf
              refine lv_aload_n hM.fx.1 hM.fx.2.1 dX9_count_91 rfl (lv_at hl 0 rfl) ?_
              refine lv_iconst (v := gi (0)) hM.fx.1 hM.fx.2.1 dX9_count_92 rfl ?_
              obtain ⟨x_10, ex_10, hf⟩ := gbd hf
              refine r_go1 hH rfl (r_runV (As := [.int (gi 0)]) hM hH cv_X9_264 (mX9_countOf hLC hM.ns hg0 (gcR (k := 0) (by decide)) ex_10) (hLC.in hg0 (by decide)) (by decide) rfl rfl rfl hl.1 rfl (Nat.le_of_ble_eq_true rfl) ⟨(Nat.le_of_ble_eq_true rfl), (Nat.le_of_ble_eq_true rfl)⟩ ⟨(Nat.le_of_ble_eq_true rfl), (Nat.le_of_ble_eq_true rfl)⟩ dX9_count_93) (fun hp_9 H locs hH => ?_)
              obtain rfl := Option.some.inj hf
              exact r_iret hM hH hp_9 ⟨(Nat.le_of_ble_eq_true rfl), (Nat.le_of_ble_eq_true rfl)⟩ dX9_count_96
            · have hf := gneg' h_8 hf
              by_cases h_11 : x1 = 5
              · refine r_tsIn (tgt := 97) hM.fx hr1 5 dX9_count_29 h_11 (by decide) rfl (by decide) ?_
                have hf := gpos h_11 hf
                refine lv_aload_n hM.fx.1 hM.fx.2.1 dX9_count_97 rfl (lv_at hl 0 rfl) ?_
                refine lv_iconst (v := gi (1)) hM.fx.1 hM.fx.2.1 dX9_count_98 rfl ?_
                obtain ⟨x_13, ex_13, hf⟩ := gbd hf
                refine r_go1 hH rfl (r_runV (As := [.int (gi 1)]) hM hH cv_X9_264 (mX9_countOf hLC hM.ns hg0 (gcR (k := 1) (by decide)) ex_13) (hLC.in hg0 (by decide)) (by decide) rfl rfl rfl hl.1 rfl (Nat.le_of_ble_eq_true rfl) ⟨(Nat.le_of_ble_eq_true rfl), (Nat.le_of_ble_eq_true rfl)⟩ ⟨(Nat.le_of_ble_eq_true rfl), (Nat.le_of_ble_eq_true rfl)⟩ dX9_count_99) (fun hp_12 H locs hH => ?_)
                obtain rfl := Option.some.inj hf
                exact r_iret hM hH hp_12 ⟨(Nat.le_of_ble_eq_true rfl), (Nat.le_of_ble_eq_true rfl)⟩ dX9_count_102
              · have hf := gneg' h_11 hf
                by_cases h_14 : x1 = 6
                · refine r_tsIn (tgt := 103) hM.fx hr1 6 dX9_count_29 h_14 (by decide) rfl (by decide) ?_
                  have hf := gpos h_14 hf
                  refine lv_aload_n hM.fx.1 hM.fx.2.1 dX9_count_103 rfl (lv_at hl 0 rfl) ?_
                  refine lv_iconst (v := gi (2)) hM.fx.1 hM.fx.2.1 dX9_count_104 rfl ?_
                  obtain ⟨x_16, ex_16, hf⟩ := gbd hf
                  refine r_go1 hH rfl (r_runV (As := [.int (gi 2)]) hM hH cv_X9_264 (mX9_countOf hLC hM.ns hg0 (gcR (k := 2) (by decide)) ex_16) (hLC.in hg0 (by decide)) (by decide) rfl rfl rfl hl.1 rfl (Nat.le_of_ble_eq_true rfl) ⟨(Nat.le_of_ble_eq_true rfl), (Nat.le_of_ble_eq_true rfl)⟩ ⟨(Nat.le_of_ble_eq_true rfl), (Nat.le_of_ble_eq_true rfl)⟩ dX9_count_105) (fun hp_15 H locs hH => ?_)
                  obtain rfl := Option.some.inj hf
                  exact r_iret hM hH hp_15 ⟨(Nat.le_of_ble_eq_true rfl), (Nat.le_of_ble_eq_true rfl)⟩ dX9_count_108
                · have hf := gneg' h_14 hf
                  by_cases h_17 : x1 = 7
                  · refine r_tsIn (tgt := 109) hM.fx hr1 7 dX9_count_29 h_17 (by decide) rfl (by decide) ?_
                    have hf := gpos h_17 hf
                    refine lv_aload_n hM.fx.1 hM.fx.2.1 dX9_count_109 rfl (lv_at hl 0 rfl) ?_
                    refine lv_bipush (v := gi (7)) hM.fx.1 hM.fx.2.1 dX9_count_110 (by decide) ?_
                    obtain ⟨x_19, ex_19, hf⟩ := gbd hf
                    refine r_go1 hH rfl (r_runV (As := [.int (gi 7)]) hM hH cv_X9_316 (mX9_sumOf hLC hM.ns hg0 (gcR (k := 7) (by decide)) ex_19) (hLC.in hg0 (by decide)) (by decide) rfl rfl rfl hl.1 rfl (Nat.le_of_ble_eq_true rfl) ⟨(Nat.le_of_ble_eq_true rfl), (Nat.le_of_ble_eq_true rfl)⟩ ⟨(Nat.le_of_ble_eq_true rfl), (Nat.le_of_ble_eq_true rfl)⟩ dX9_count_112) (fun hp_18 H locs hH => ?_)
                    obtain rfl := Option.some.inj hf
                    exact r_iret hM hH hp_18 ⟨(Nat.le_of_ble_eq_true rfl), (Nat.le_of_ble_eq_true rfl)⟩ dX9_count_115
                  · have hf := gneg' h_17 hf
                    by_cases h_20 : x1 = 8
                    · refine r_tsIn (tgt := 116) hM.fx hr1 8 dX9_count_29 h_20 (by decide) rfl (by decide) ?_
                      have hf := gpos h_20 hf
                      refine lv_aload_n hM.fx.1 hM.fx.2.1 dX9_count_116 rfl (lv_at hl 0 rfl) ?_
                      refine r_getR hM.fx hM.kf hH hLC fl_X9_7 hg0 gch_9_0 dX9_count_117 ?_
                      refine lv_iconst (v := gi (5)) hM.fx.1 hM.fx.2.1 dX9_count_120 rfl ?_
                      obtain ⟨g_21, hf⟩ := gif hf
                      refine r_iald hM.fx hM.kf hH (hLC.in (hLC.ch hg0 (by decide) gch_9_0) (by decide)) (⟨by decide, by decide⟩ : gAr 19056 0) (gcR (k := 5) (by decide)) g_21 dX9_count_121 ?_
                      have hr_22 := hH.2.2.i (k := (5 : Int).toNat) (hLC.in (hLC.ch hg0 (by decide) gch_9_0) (by decide)).2.2 (glg_a (⟨by decide, by decide⟩ : gAr 19056 0))
                      obtain rfl := Option.some.inj hf
                      exact r_iret hM hH hr_22 ⟨(Nat.le_of_ble_eq_true rfl), (Nat.le_of_ble_eq_true rfl)⟩ dX9_count_122
                    · have hf := gneg' h_20 hf
                      by_cases h_23 : x1 = 9
                      · refine r_tsIn (tgt := 123) hM.fx hr1 9 dX9_count_29 h_23 (by decide) rfl (by decide) ?_
                        have hf := gpos h_23 hf
                        refine lv_aload_n hM.fx.1 hM.fx.2.1 dX9_count_123 rfl (lv_at hl 0 rfl) ?_
                        obtain ⟨x_25, ex_25, hf⟩ := gbd hf
                        refine r_go1 hH rfl (r_runV (As := []) hM hH cv_X9_300 (mX9_nextOne hLC hM.ns hg0 ex_25) (hLC.in hg0 (by decide)) (by decide) rfl rfl rfl hl.1 rfl (Nat.le_of_ble_eq_true rfl) ⟨(Nat.le_of_ble_eq_true rfl), (Nat.le_of_ble_eq_true rfl)⟩ ⟨(Nat.le_of_ble_eq_true rfl), (Nat.le_of_ble_eq_true rfl)⟩ dX9_count_124) (fun hp_24 H locs hH => ?_)
                        obtain rfl := Option.some.inj hf
                        exact r_iret hM hH hp_24 ⟨(Nat.le_of_ble_eq_true rfl), (Nat.le_of_ble_eq_true rfl)⟩ dX9_count_127
                      · have hf := gneg' h_23 hf
                        refine r_tsOut (tgt := 128) hM.fx hr1 dX9_count_29 (by omega) (by decide) ?_
                        refine lv_aload_n hM.fx.1 hM.fx.2.1 dX9_count_128 rfl (lv_at hl 0 rfl) ?_
                        obtain ⟨x_27, ex_27, hf⟩ := gbd hf
                        refine r_go1 hH rfl (r_runV (As := []) hM hH cv_X9_306 (mX9_isDeskStuck hLC hM.ns hg0 ex_27) (hLC.in hg0 (by decide)) (by decide) rfl rfl rfl hl.1 rfl (Nat.le_of_ble_eq_true rfl) ⟨(Nat.le_of_ble_eq_true rfl), (Nat.le_of_ble_eq_true rfl)⟩ ⟨(Nat.le_of_ble_eq_true rfl), (Nat.le_of_ble_eq_true rfl)⟩ dX9_count_129) (fun hp_26 H locs hH => ?_)
                        refine r_if_eq (tgt := 139) hM.fx (gz_r hp_26) dX9_count_132 (by decide) (fun h_28 => ?_) (fun h_28 => ?_)
                        · have hf := gpos h_28 hf
                          refine lv_iconst (v := gi (0)) hM.fx.1 hM.fx.2.1 dX9_count_139 rfl ?_
                          obtain rfl := Option.some.inj hf
                          exact r_iret hM hH (gcR (k := 0) (by decide)) ⟨(Nat.le_of_ble_eq_true rfl), (Nat.le_of_ble_eq_true rfl)⟩ dX9_count_140
                        · have hf := gneg' h_28 hf
                          refine lv_iconst (v := gi (1)) hM.fx.1 hM.fx.2.1 dX9_count_135 rfl ?_
                          refine lv_goto (tgt := 140) hM.fx.1 hM.fx.2.1 dX9_count_136 (by decide) ?_
                          obtain rfl := Option.some.inj hf
                          exact r_iret hM hH (gcR (k := 1) (by decide)) ⟨(Nat.le_of_ble_eq_true rfl), (Nat.le_of_ble_eq_true rfl)⟩ dX9_count_140
  · have hf := gneg' h_3 hf
    refine lv_iconst (v := gi (0)) hM.fx.1 hM.fx.2.1 dX9_count_26 rfl ?_
    obtain rfl := Option.some.inj hf
    exact r_iret hM hH (gcR (k := 0) (by decide)) ⟨(Nat.le_of_ble_eq_true rfl), (Nat.le_of_ble_eq_true rfl)⟩ dX9_count_27
def fX9_count (g : Nat → Nat) (a0 : Nat) (x1 : Int) (M : gMem) : Option (Int × gMem) :=
  (fX9_isIn g x1 0 10).bind fun x_2 => if x_2 = 0 then (fX9_count_16 g a0 x1 a0 1 M) else (fX9_count_16 g a0 x1 a0 0 M)
set_option maxHeartbeats 4000000 in
set_option maxRecDepth 100000 in
theorem mX9_count {w : gW} {n : Nat} {Rm : Nat → Nat → Nat} {g : Nat → Nat} (hLC : gLC g n Rm) {l : Launch} (hl9 : l.stackTraces = false) {a0 : Nat} {x1 : Int} {M : gMem} {r : (Int × gMem)} (hg0 : g a0 = 9) (hr1 : gRI x1) (hf : fX9_count g a0 x1 M = some r) : gMT w n Rm l yX9_count cX9_count 2 (some .int) 7 198 0 0 [.ref (w.1 + a0), .int (gi x1)] M (.inr (some (.int (gi r.1)))) r.2 (gRI r.1) := by
  unfold fX9_count at hf
  refine gMT.of hl9 (by decide +kernel) ((Nat.le_of_ble_eq_true rfl)) ?_
  intro p e s m below meth c hM hH ls hl
  have hM : gMC w p l s m ([.ref (w.1 + a0), .int (gi x1)] : List Value).toArray meth c cX9_count 2 RX9 (some .int) := hM
  have hl : lv_has ls 2 [(0, .ref (w.1 + a0)), (1, .int (gi x1))] := hl
  refine lv_aload_n hM.fx.1 hM.fx.2.1 dX9_count_0 rfl (lv_at hl 0 rfl) ?_
  refine lv_iload_n hM.fx.1 hM.fx.2.1 dX9_count_1 rfl (lv_at hl 1 rfl) ?_
  refine lv_iconst (v := gi (0)) hM.fx.1 hM.fx.2.1 dX9_count_2 rfl ?_
  refine lv_bipush (v := gi (10)) hM.fx.1 hM.fx.2.1 dX9_count_3 (by decide) ?_
  obtain ⟨x_2, ex_2, hf⟩ := gbd hf
  refine r_go1 hH rfl (r_runS (As := [.int (gi x1), .int (gi 0), .int (gi 10)]) hM hH cs_X9_56 (mX9_isIn hLC hM.ns hr1 (gcR (k := 0) (by decide)) (gcR (k := 10) (by decide)) ex_2) rfl hl.1 rfl (Nat.le_of_ble_eq_true rfl) ⟨(Nat.le_of_ble_eq_true rfl), (Nat.le_of_ble_eq_true rfl)⟩ ⟨(Nat.le_of_ble_eq_true rfl), (Nat.le_of_ble_eq_true rfl)⟩ dX9_count_5) (fun hp_1 H locs hH => ?_)
  refine r_if_eq (tgt := 15) hM.fx (gz_r hp_1) dX9_count_8 (by decide) (fun h_3 => ?_) (fun h_3 => ?_)
  · have hf := gpos h_3 hf
    refine lv_iconst (v := gi (1)) hM.fx.1 hM.fx.2.1 dX9_count_15 rfl ?_
    exact wX9_count_16 hLC hM   _ _ _ _ _ _ hg0 hr1 hg0 (gcR (k := 1) (by decide)) hf _ _ _ hH hl
  · have hf := gneg' h_3 hf
    refine lv_iconst (v := gi (0)) hM.fx.1 hM.fx.2.1 dX9_count_11 rfl ?_
    refine lv_goto (tgt := 16) hM.fx.1 hM.fx.2.1 dX9_count_12 (by decide) ?_
    exact wX9_count_16 hLC hM   _ _ _ _ _ _ hg0 hr1 hg0 (gcR (k := 0) (by decide)) hf _ _ _ hH hl
def fX9_process_28 (g : Nat → Nat)  (a0 : Nat) (x1 : Int) (x2 : Int) (as0 : Nat) (xs1 : Int) (M : gMem) : Option (Int × gMem) :=
  gst (gup M as0 7 xs1) fun M_1 => if M_1 a0 7 ≤ 0 then (if 3 ≤ x2 then (if x2 = 3 then ((fX9_inHand g a0 x1 M_1).bind fun x_9 => some (x_9, M_1)) else ((fX9_of g a0 x1 (gwi (x2 - 1)) M_1).bind fun x_7 => some (x_7, M_1))) else ((fX9_of g a0 x1 x2 M_1).bind fun x_11 => some (x_11, M_1))) else (some (0, M_1))
set_option maxHeartbeats 4000000 in
set_option maxRecDepth 100000 in
theorem wX9_process_28 {w : gW} {n : Nat} {Rm : Nat → Nat → Nat} {g : Nat → Nat} (hLC : gLC g n Rm) {p : Program} {l : Launch} {e : Env} {s : State} {m : MethodId} {args : Array Value} {below : List Frame} {meth : Method} {c : Code} (hM : gMC w p l s m args meth c cX9_process 3 RX9 (some .int))  : ∀ (a0 : Nat) (x1 : Int) (x2 : Int) (as0 : Nat) (xs1 : Int) (M : gMem) (r : (Int × gMem)) (hg0 : g a0 = 9) (hr1 : gRI x1) (hr2 : gRI x2) (hgs0 : g as0 = 9) (hrs1 : gRI xs1) (hf : fX9_process_28 g a0 x1 x2 as0 xs1 M = some r) (H : Heap) (locs : List Loc) (ls : Array Slot) (hH : gH w n Rm M s H locs) (hl : lv_has ls 3 [(0, .ref (w.1 + a0)), (1, .int (gi x1)), (2, .int (gi x2))]), W p l e { frames := 3, cells := 0, slots := 0, locals := 104 } s m args below meth c H locs 0 0 (gQ w n Rm below args s 0 0 (.inr (some (.int (gi r.1)))) r.2 (gRI r.1)) (F0 m 28 ls [.int (gi xs1), .ref (w.1 + as0)]) := by
  intro a0 x1 x2 as0 xs1 M r hg0 hr1 hr2 hgs0 hrs1 hf H locs ls hH hl
  unfold fX9_process_28 at hf
  refine r_putI hM.fx hM.kf hH fp_X9_46 (hLC.in hgs0 (by decide)) hrs1 dX9_process_28 (fun H locs hH => ?_)
  obtain ⟨M_1, eM_1, hf⟩ := gst_s hf
  rw [← eM_1] at hH
  refine lv_aload_n hM.fx.1 hM.fx.2.1 dX9_process_31 rfl (lv_at hl 0 rfl) ?_
  refine r_getI hM.fx hM.kf hH fl_X9_46 (hLC.in hg0 (by decide)) dX9_process_32 ?_
  have hr_2 := hH.2.2.i (hLC.in hg0 (by decide)).2.2 (by decide : glg 9 7 = false)
  refine r_if_le (tgt := 40) hM.fx hr_2 dX9_process_35 (by decide) (fun h_3 => ?_) (fun h_3 => ?_)
  · have hf := gpos h_3 hf
    refine lv_iload_n hM.fx.1 hM.fx.2.1 dX9_process_40 rfl (lv_at hl 2 rfl) ?_
    refine lv_iconst (v := gi (3)) hM.fx.1 hM.fx.2.1 dX9_process_41 rfl ?_
    refine r_icmp_ge (tgt := 54) hM.fx hr2 (gcR (k := 3) (by decide)) dX9_process_42 (by decide) (fun h_4 => ?_) (fun h_4 => ?_)
    · have hf := gpos h_4 hf
      refine lv_iload_n hM.fx.1 hM.fx.2.1 dX9_process_54 rfl (lv_at hl 2 rfl) ?_
      refine lv_iconst (v := gi (3)) hM.fx.1 hM.fx.2.1 dX9_process_55 rfl ?_
      refine r_icmp_ne (tgt := 67) hM.fx hr2 (gcR (k := 3) (by decide)) dX9_process_56 (by decide) (fun h_5 => ?_) (fun h_5 => ?_)
      · have hf := gneg' h_5 hf
        refine lv_aload_n hM.fx.1 hM.fx.2.1 dX9_process_67 rfl (lv_at hl 0 rfl) ?_
        refine lv_iload_n hM.fx.1 hM.fx.2.1 dX9_process_68 rfl (lv_at hl 1 rfl) ?_
        refine lv_iload_n hM.fx.1 hM.fx.2.1 dX9_process_69 rfl (lv_at hl 2 rfl) ?_
        refine lv_iconst (v := gi (1)) hM.fx.1 hM.fx.2.1 dX9_process_70 rfl ?_
        refine r_isub hM.fx dX9_process_71 ?_
        obtain ⟨x_7, ex_7, hf⟩ := gbd hf
        refine r_go1 hH rfl (r_runV (As := [.int (gi x1), .int (gi (gwi (x2 - 1)))]) hM hH cv_X9_135 (mX9_of hLC hM.ns hg0 hr1 (gwi_r _) ex_7) (hLC.in hg0 (by decide)) (by decide) rfl rfl rfl hl.1 rfl (Nat.le_of_ble_eq_true rfl) ⟨(Nat.le_of_ble_eq_true rfl), (Nat.le_of_ble_eq_true rfl)⟩ ⟨(Nat.le_of_ble_eq_true rfl), (Nat.le_of_ble_eq_true rfl)⟩ dX9_process_72) (fun hp_6 H locs hH => ?_)
        obtain rfl := Option.some.inj hf
        exact r_iret hM hH hp_6 ⟨(Nat.le_of_ble_eq_true rfl), (Nat.le_of_ble_eq_true rfl)⟩ dX9_process_75
      · have hf := gpos h_5 hf
        refine lv_aload_n hM.fx.1 hM.fx.2.1 dX9_process_59 rfl (lv_at hl 0 rfl) ?_
        refine lv_iload_n hM.fx.1 hM.fx.2.1 dX9_process_60 rfl (lv_at hl 1 rfl) ?_
        obtain ⟨x_9, ex_9, hf⟩ := gbd hf
        refine r_go1 hH rfl (r_runV (As := [.int (gi x1)]) hM hH cv_X9_212 (mX9_inHand hLC hM.ns hg0 hr1 ex_9) (hLC.in hg0 (by decide)) (by decide) rfl rfl rfl hl.1 rfl (Nat.le_of_ble_eq_true rfl) ⟨(Nat.le_of_ble_eq_true rfl), (Nat.le_of_ble_eq_true rfl)⟩ ⟨(Nat.le_of_ble_eq_true rfl), (Nat.le_of_ble_eq_true rfl)⟩ dX9_process_61) (fun hp_8 H locs hH => ?_)
        refine lv_goto (tgt := 75) hM.fx.1 hM.fx.2.1 dX9_process_64 (by decide) ?_
        obtain rfl := Option.some.inj hf
        exact r_iret hM hH hp_8 ⟨(Nat.le_of_ble_eq_true rfl), (Nat.le_of_ble_eq_true rfl)⟩ dX9_process_75
    · have hf := gneg' h_4 hf
      refine lv_aload_n hM.fx.1 hM.fx.2.1 dX9_process_45 rfl (lv_at hl 0 rfl) ?_
      refine lv_iload_n hM.fx.1 hM.fx.2.1 dX9_process_46 rfl (lv_at hl 1 rfl) ?_
      refine lv_iload_n hM.fx.1 hM.fx.2.1 dX9_process_47 rfl (lv_at hl 2 rfl) ?_
      obtain ⟨x_11, ex_11, hf⟩ := gbd hf
      refine r_go1 hH rfl (r_runV (As := [.int (gi x1), .int (gi x2)]) hM hH cv_X9_135 (mX9_of hLC hM.ns hg0 hr1 hr2 ex_11) (hLC.in hg0 (by decide)) (by decide) rfl rfl rfl hl.1 rfl (Nat.le_of_ble_eq_true rfl) ⟨(Nat.le_of_ble_eq_true rfl), (Nat.le_of_ble_eq_true rfl)⟩ ⟨(Nat.le_of_ble_eq_true rfl), (Nat.le_of_ble_eq_true rfl)⟩ dX9_process_48) (fun hp_10 H locs hH => ?_)
      refine lv_goto (tgt := 75) hM.fx.1 hM.fx.2.1 dX9_process_51 (by decide) ?_
      obtain rfl := Option.some.inj hf
      exact r_iret hM hH hp_10 ⟨(Nat.le_of_ble_eq_true rfl), (Nat.le_of_ble_eq_true rfl)⟩ dX9_process_75
  · have hf := gneg' h_3 hf
    refine lv_iconst (v := gi (0)) hM.fx.1 hM.fx.2.1 dX9_process_38 rfl ?_
    obtain rfl := Option.some.inj hf
    exact r_iret hM hH (gcR (k := 0) (by decide)) ⟨(Nat.le_of_ble_eq_true rfl), (Nat.le_of_ble_eq_true rfl)⟩ dX9_process_39
def fX9_process (g : Nat → Nat) (a0 : Nat) (x1 : Int) (x2 : Int) (M : gMem) : Option (Int × gMem) :=
  (fX9_isProcess g a0 x1 M).bind fun x_2 => if x_2 = 0 then (fX9_process_28 g a0 x1 x2 a0 1 M) else ((fX9_isIn g x2 0 10).bind fun x_5 => if x_5 = 0 then (fX9_process_28 g a0 x1 x2 a0 2 M) else (fX9_process_28 g a0 x1 x2 a0 0 M))
set_option maxHeartbeats 4000000 in
set_option maxRecDepth 100000 in
theorem mX9_process {w : gW} {n : Nat} {Rm : Nat → Nat → Nat} {g : Nat → Nat} (hLC : gLC g n Rm) {l : Launch} (hl9 : l.stackTraces = false) {a0 : Nat} {x1 : Int} {x2 : Int} {M : gMem} {r : (Int × gMem)} (hg0 : g a0 = 9) (hr1 : gRI x1) (hr2 : gRI x2) (hf : fX9_process g a0 x1 x2 M = some r) : gMT w n Rm l yX9_process cX9_process 3 (some .int) 3 104 0 0 [.ref (w.1 + a0), .int (gi x1), .int (gi x2)] M (.inr (some (.int (gi r.1)))) r.2 (gRI r.1) := by
  unfold fX9_process at hf
  refine gMT.of hl9 (by decide +kernel) ((Nat.le_of_ble_eq_true rfl)) ?_
  intro p e s m below meth c hM hH ls hl
  have hM : gMC w p l s m ([.ref (w.1 + a0), .int (gi x1), .int (gi x2)] : List Value).toArray meth c cX9_process 3 RX9 (some .int) := hM
  have hl : lv_has ls 3 [(0, .ref (w.1 + a0)), (1, .int (gi x1)), (2, .int (gi x2))] := hl
  refine lv_aload_n hM.fx.1 hM.fx.2.1 dX9_process_0 rfl (lv_at hl 0 rfl) ?_
  refine lv_aload_n hM.fx.1 hM.fx.2.1 dX9_process_1 rfl (lv_at hl 0 rfl) ?_
  refine lv_iload_n hM.fx.1 hM.fx.2.1 dX9_process_2 rfl (lv_at hl 1 rfl) ?_
  obtain ⟨x_2, ex_2, hf⟩ := gbd hf
  refine r_go1 hH rfl (r_runV (As := [.int (gi x1)]) hM hH cv_X9_319 (mX9_isProcess hLC hM.ns hg0 hr1 ex_2) (hLC.in hg0 (by decide)) (by decide) rfl rfl rfl hl.1 rfl (Nat.le_of_ble_eq_true rfl) ⟨(Nat.le_of_ble_eq_true rfl), (Nat.le_of_ble_eq_true rfl)⟩ ⟨(Nat.le_of_ble_eq_true rfl), (Nat.le_of_ble_eq_true rfl)⟩ dX9_process_3) (fun hp_1 H locs hH => ?_)
  refine r_if_ne (tgt := 13) hM.fx (gz_r hp_1) dX9_process_6 (by decide) (fun h_3 => ?_) (fun h_3 => ?_)
  · have hf := gneg' h_3 hf
    refine lv_iload_n hM.fx.1 hM.fx.2.1 dX9_process_13 rfl (lv_at hl 2 rfl) ?_
    refine lv_iconst (v := gi (0)) hM.fx.1 hM.fx.2.1 dX9_process_14 rfl ?_
    refine lv_bipush (v := gi (10)) hM.fx.1 hM.fx.2.1 dX9_process_15 (by decide) ?_
    obtain ⟨x_5, ex_5, hf⟩ := gbd hf
    refine r_go1 hH rfl (r_runS (As := [.int (gi x2), .int (gi 0), .int (gi 10)]) hM hH cs_X9_56 (mX9_isIn hLC hM.ns hr2 (gcR (k := 0) (by decide)) (gcR (k := 10) (by decide)) ex_5) rfl hl.1 rfl (Nat.le_of_ble_eq_true rfl) ⟨(Nat.le_of_ble_eq_true rfl), (Nat.le_of_ble_eq_true rfl)⟩ ⟨(Nat.le_of_ble_eq_true rfl), (Nat.le_of_ble_eq_true rfl)⟩ dX9_process_17) (fun hp_4 H locs hH => ?_)
    refine r_if_eq (tgt := 27) hM.fx (gz_r hp_4) dX9_process_20 (by decide) (fun h_6 => ?_) (fun h_6 => ?_)
    · have hf := gpos h_6 hf
      refine lv_iconst (v := gi (2)) hM.fx.1 hM.fx.2.1 dX9_process_27 rfl ?_
      exact wX9_process_28 hLC hM   _ _ _ _ _ _ _ hg0 hr1 hr2 hg0 (gcR (k := 2) (by decide)) hf _ _ _ hH hl
    · have hf := gneg' h_6 hf
      refine lv_iconst (v := gi (0)) hM.fx.1 hM.fx.2.1 dX9_process_23 rfl ?_
      refine lv_goto (tgt := 28) hM.fx.1 hM.fx.2.1 dX9_process_24 (by decide) ?_
      exact wX9_process_28 hLC hM   _ _ _ _ _ _ _ hg0 hr1 hr2 hg0 (gcR (k := 0) (by decide)) hf _ _ _ hH hl
  · have hf := gpos h_3 hf
    refine lv_iconst (v := gi (1)) hM.fx.1 hM.fx.2.1 dX9_process_9 rfl ?_
    refine lv_goto (tgt := 28) hM.fx.1 hM.fx.2.1 dX9_process_10 (by decide) ?_
    exact wX9_process_28 hLC hM   _ _ _ _ _ _ _ hg0 hr1 hr2 hg0 (gcR (k := 1) (by decide)) hf _ _ _ hH hl
def fX9_stack_27 (g : Nat → Nat)  (a0 : Nat) (x1 : Int) (x2 : Int) (as0 : Nat) (xs1 : Int) (M : gMem) : Option (Int × gMem) :=
  gst (gup M as0 7 xs1) fun M_1 => if M_1 a0 7 ≤ 0 then ((fX9_ofStack g a0 x1 x2 M_1).bind fun x_5 => some (x_5, M_1)) else (some (0, M_1))
set_option maxHeartbeats 4000000 in
set_option maxRecDepth 100000 in
theorem wX9_stack_27 {w : gW} {n : Nat} {Rm : Nat → Nat → Nat} {g : Nat → Nat} (hLC : gLC g n Rm) {p : Program} {l : Launch} {e : Env} {s : State} {m : MethodId} {args : Array Value} {below : List Frame} {meth : Method} {c : Code} (hM : gMC w p l s m args meth c cX9_stack 3 RX9 (some .int))  : ∀ (a0 : Nat) (x1 : Int) (x2 : Int) (as0 : Nat) (xs1 : Int) (M : gMem) (r : (Int × gMem)) (hg0 : g a0 = 9) (hr1 : gRI x1) (hr2 : gRI x2) (hgs0 : g as0 = 9) (hrs1 : gRI xs1) (hf : fX9_stack_27 g a0 x1 x2 as0 xs1 M = some r) (H : Heap) (locs : List Loc) (ls : Array Slot) (hH : gH w n Rm M s H locs) (hl : lv_has ls 3 [(0, .ref (w.1 + a0)), (1, .int (gi x1)), (2, .int (gi x2))]), W p l e { frames := 3, cells := 0, slots := 0, locals := 103 } s m args below meth c H locs 0 0 (gQ w n Rm below args s 0 0 (.inr (some (.int (gi r.1)))) r.2 (gRI r.1)) (F0 m 27 ls [.int (gi xs1), .ref (w.1 + as0)]) := by
  intro a0 x1 x2 as0 xs1 M r hg0 hr1 hr2 hgs0 hrs1 hf H locs ls hH hl
  unfold fX9_stack_27 at hf
  refine r_putI hM.fx hM.kf hH fp_X9_46 (hLC.in hgs0 (by decide)) hrs1 dX9_stack_27 (fun H locs hH => ?_)
  obtain ⟨M_1, eM_1, hf⟩ := gst_s hf
  rw [← eM_1] at hH
  refine lv_aload_n hM.fx.1 hM.fx.2.1 dX9_stack_30 rfl (lv_at hl 0 rfl) ?_
  refine r_getI hM.fx hM.kf hH fl_X9_46 (hLC.in hg0 (by decide)) dX9_stack_31 ?_
  have hr_2 := hH.2.2.i (hLC.in hg0 (by decide)).2.2 (by decide : glg 9 7 = false)
  refine r_if_le (tgt := 41) hM.fx hr_2 dX9_stack_34 (by decide) (fun h_3 => ?_) (fun h_3 => ?_)
  · have hf := gpos h_3 hf
    refine lv_aload_n hM.fx.1 hM.fx.2.1 dX9_stack_41 rfl (lv_at hl 0 rfl) ?_
    refine lv_iload_n hM.fx.1 hM.fx.2.1 dX9_stack_42 rfl (lv_at hl 1 rfl) ?_
    refine lv_iload_n hM.fx.1 hM.fx.2.1 dX9_stack_43 rfl (lv_at hl 2 rfl) ?_
    obtain ⟨x_5, ex_5, hf⟩ := gbd hf
    refine r_go1 hH rfl (r_runV (As := [.int (gi x1), .int (gi x2)]) hM hH cv_X9_232 (mX9_ofStack hLC hM.ns hg0 hr1 hr2 ex_5) (hLC.in hg0 (by decide)) (by decide) rfl rfl rfl hl.1 rfl (Nat.le_of_ble_eq_true rfl) ⟨(Nat.le_of_ble_eq_true rfl), (Nat.le_of_ble_eq_true rfl)⟩ ⟨(Nat.le_of_ble_eq_true rfl), (Nat.le_of_ble_eq_true rfl)⟩ dX9_stack_44) (fun hp_4 H locs hH => ?_)
    obtain rfl := Option.some.inj hf
    exact r_iret hM hH hp_4 ⟨(Nat.le_of_ble_eq_true rfl), (Nat.le_of_ble_eq_true rfl)⟩ dX9_stack_47
  · have hf := gneg' h_3 hf
    refine lv_iconst (v := gi (0)) hM.fx.1 hM.fx.2.1 dX9_stack_37 rfl ?_
    refine lv_goto (tgt := 47) hM.fx.1 hM.fx.2.1 dX9_stack_38 (by decide) ?_
    obtain rfl := Option.some.inj hf
    exact r_iret hM hH (gcR (k := 0) (by decide)) ⟨(Nat.le_of_ble_eq_true rfl), (Nat.le_of_ble_eq_true rfl)⟩ dX9_stack_47
def fX9_stack (g : Nat → Nat) (a0 : Nat) (x1 : Int) (x2 : Int) (M : gMem) : Option (Int × gMem) :=
  (fX9_isStack g a0 x1 M).bind fun x_2 => if x_2 = 0 then (fX9_stack_27 g a0 x1 x2 a0 1 M) else ((fX9_isIn g x2 0 4).bind fun x_5 => if x_5 = 0 then (fX9_stack_27 g a0 x1 x2 a0 2 M) else (fX9_stack_27 g a0 x1 x2 a0 0 M))
set_option maxHeartbeats 4000000 in
set_option maxRecDepth 100000 in
theorem mX9_stack {w : gW} {n : Nat} {Rm : Nat → Nat → Nat} {g : Nat → Nat} (hLC : gLC g n Rm) {l : Launch} (hl9 : l.stackTraces = false) {a0 : Nat} {x1 : Int} {x2 : Int} {M : gMem} {r : (Int × gMem)} (hg0 : g a0 = 9) (hr1 : gRI x1) (hr2 : gRI x2) (hf : fX9_stack g a0 x1 x2 M = some r) : gMT w n Rm l yX9_stack cX9_stack 3 (some .int) 3 103 0 0 [.ref (w.1 + a0), .int (gi x1), .int (gi x2)] M (.inr (some (.int (gi r.1)))) r.2 (gRI r.1) := by
  unfold fX9_stack at hf
  refine gMT.of hl9 (by decide +kernel) ((Nat.le_of_ble_eq_true rfl)) ?_
  intro p e s m below meth c hM hH ls hl
  have hM : gMC w p l s m ([.ref (w.1 + a0), .int (gi x1), .int (gi x2)] : List Value).toArray meth c cX9_stack 3 RX9 (some .int) := hM
  have hl : lv_has ls 3 [(0, .ref (w.1 + a0)), (1, .int (gi x1)), (2, .int (gi x2))] := hl
  refine lv_aload_n hM.fx.1 hM.fx.2.1 dX9_stack_0 rfl (lv_at hl 0 rfl) ?_
  refine lv_aload_n hM.fx.1 hM.fx.2.1 dX9_stack_1 rfl (lv_at hl 0 rfl) ?_
  refine lv_iload_n hM.fx.1 hM.fx.2.1 dX9_stack_2 rfl (lv_at hl 1 rfl) ?_
  obtain ⟨x_2, ex_2, hf⟩ := gbd hf
  refine r_go1 hH rfl (r_runV (As := [.int (gi x1)]) hM hH cv_X9_322 (mX9_isStack hLC hM.ns hg0 hr1 ex_2) (hLC.in hg0 (by decide)) (by decide) rfl rfl rfl hl.1 rfl (Nat.le_of_ble_eq_true rfl) ⟨(Nat.le_of_ble_eq_true rfl), (Nat.le_of_ble_eq_true rfl)⟩ ⟨(Nat.le_of_ble_eq_true rfl), (Nat.le_of_ble_eq_true rfl)⟩ dX9_stack_3) (fun hp_1 H locs hH => ?_)
  refine r_if_ne (tgt := 13) hM.fx (gz_r hp_1) dX9_stack_6 (by decide) (fun h_3 => ?_) (fun h_3 => ?_)
  · have hf := gneg' h_3 hf
    refine lv_iload_n hM.fx.1 hM.fx.2.1 dX9_stack_13 rfl (lv_at hl 2 rfl) ?_
    refine lv_iconst (v := gi (0)) hM.fx.1 hM.fx.2.1 dX9_stack_14 rfl ?_
    refine lv_iconst (v := gi (4)) hM.fx.1 hM.fx.2.1 dX9_stack_15 rfl ?_
    obtain ⟨x_5, ex_5, hf⟩ := gbd hf
    refine r_go1 hH rfl (r_runS (As := [.int (gi x2), .int (gi 0), .int (gi 4)]) hM hH cs_X9_56 (mX9_isIn hLC hM.ns hr2 (gcR (k := 0) (by decide)) (gcR (k := 4) (by decide)) ex_5) rfl hl.1 rfl (Nat.le_of_ble_eq_true rfl) ⟨(Nat.le_of_ble_eq_true rfl), (Nat.le_of_ble_eq_true rfl)⟩ ⟨(Nat.le_of_ble_eq_true rfl), (Nat.le_of_ble_eq_true rfl)⟩ dX9_stack_16) (fun hp_4 H locs hH => ?_)
    refine r_if_eq (tgt := 26) hM.fx (gz_r hp_4) dX9_stack_19 (by decide) (fun h_6 => ?_) (fun h_6 => ?_)
    · have hf := gpos h_6 hf
      refine lv_iconst (v := gi (2)) hM.fx.1 hM.fx.2.1 dX9_stack_26 rfl ?_
      exact wX9_stack_27 hLC hM   _ _ _ _ _ _ _ hg0 hr1 hr2 hg0 (gcR (k := 2) (by decide)) hf _ _ _ hH hl
    · have hf := gneg' h_6 hf
      refine lv_iconst (v := gi (0)) hM.fx.1 hM.fx.2.1 dX9_stack_22 rfl ?_
      refine lv_goto (tgt := 27) hM.fx.1 hM.fx.2.1 dX9_stack_23 (by decide) ?_
      exact wX9_stack_27 hLC hM   _ _ _ _ _ _ _ hg0 hr1 hr2 hg0 (gcR (k := 0) (by decide)) hf _ _ _ hH hl
  · have hf := gpos h_3 hf
    refine lv_iconst (v := gi (1)) hM.fx.1 hM.fx.2.1 dX9_stack_9 rfl ?_
    refine lv_goto (tgt := 27) hM.fx.1 hM.fx.2.1 dX9_stack_10 (by decide) ?_
    exact wX9_stack_27 hLC hM   _ _ _ _ _ _ _ hg0 hr1 hr2 hg0 (gcR (k := 1) (by decide)) hf _ _ _ hH hl
def fX9_number_14 (g : Nat → Nat)  (a0 : Nat) (x1 : Int) (x2 : Int) (as0 : Nat) (xs1 : Int) (M : gMem) : Option (Int × gMem) :=
  gst (gup M as0 7 xs1) fun M_1 => if M_1 a0 7 ≤ 0 then ((fX9_ofStack g a0 x1 1 M_1).bind fun x_5 => (fX9_isIn g x2 0 (gwi (x_5 - 1))).bind fun x_7 => if x_7 = 0 then (some ((-1000000), M_1)) else ((fX9_numberOf g a0 x1 x2 M_1).bind fun x_10 => some (x_10, M_1))) else (some (0, M_1))
set_option maxHeartbeats 4000000 in
set_option maxRecDepth 100000 in
theorem wX9_number_14 {w : gW} {n : Nat} {Rm : Nat → Nat → Nat} {g : Nat → Nat} (hLC : gLC g n Rm) {p : Program} {l : Launch} {e : Env} {s : State} {m : MethodId} {args : Array Value} {below : List Frame} {meth : Method} {c : Code} (hM : gMC w p l s m args meth c cX9_number 3 RX9 (some .int))  : ∀ (a0 : Nat) (x1 : Int) (x2 : Int) (as0 : Nat) (xs1 : Int) (M : gMem) (r : (Int × gMem)) (hg0 : g a0 = 9) (hr1 : gRI x1) (hr2 : gRI x2) (hgs0 : g as0 = 9) (hrs1 : gRI xs1) (hf : fX9_number_14 g a0 x1 x2 as0 xs1 M = some r) (H : Heap) (locs : List Loc) (ls : Array Slot) (hH : gH w n Rm M s H locs) (hl : lv_has ls 3 [(0, .ref (w.1 + a0)), (1, .int (gi x1)), (2, .int (gi x2))]), W p l e { frames := 3, cells := 0, slots := 0, locals := 104 } s m args below meth c H locs 0 0 (gQ w n Rm below args s 0 0 (.inr (some (.int (gi r.1)))) r.2 (gRI r.1)) (F0 m 14 ls [.int (gi xs1), .ref (w.1 + as0)]) := by
  intro a0 x1 x2 as0 xs1 M r hg0 hr1 hr2 hgs0 hrs1 hf H locs ls hH hl
  unfold fX9_number_14 at hf
  refine r_putI hM.fx hM.kf hH fp_X9_46 (hLC.in hgs0 (by decide)) hrs1 dX9_number_14 (fun H locs hH => ?_)
  obtain ⟨M_1, eM_1, hf⟩ := gst_s hf
  rw [← eM_1] at hH
  refine lv_aload_n hM.fx.1 hM.fx.2.1 dX9_number_17 rfl (lv_at hl 0 rfl) ?_
  refine r_getI hM.fx hM.kf hH fl_X9_46 (hLC.in hg0 (by decide)) dX9_number_18 ?_
  have hr_2 := hH.2.2.i (hLC.in hg0 (by decide)).2.2 (by decide : glg 9 7 = false)
  refine r_if_le (tgt := 26) hM.fx hr_2 dX9_number_21 (by decide) (fun h_3 => ?_) (fun h_3 => ?_)
  · have hf := gpos h_3 hf
    refine lv_iload_n hM.fx.1 hM.fx.2.1 dX9_number_26 rfl (lv_at hl 2 rfl) ?_
    refine lv_iconst (v := gi (0)) hM.fx.1 hM.fx.2.1 dX9_number_27 rfl ?_
    refine lv_aload_n hM.fx.1 hM.fx.2.1 dX9_number_28 rfl (lv_at hl 0 rfl) ?_
    refine lv_iload_n hM.fx.1 hM.fx.2.1 dX9_number_29 rfl (lv_at hl 1 rfl) ?_
    refine lv_iconst (v := gi (1)) hM.fx.1 hM.fx.2.1 dX9_number_30 rfl ?_
    obtain ⟨x_5, ex_5, hf⟩ := gbd hf
    refine r_go1 hH rfl (r_runV (As := [.int (gi x1), .int (gi 1)]) hM hH cv_X9_232 (mX9_ofStack hLC hM.ns hg0 hr1 (gcR (k := 1) (by decide)) ex_5) (hLC.in hg0 (by decide)) (by decide) rfl rfl rfl hl.1 rfl (Nat.le_of_ble_eq_true rfl) ⟨(Nat.le_of_ble_eq_true rfl), (Nat.le_of_ble_eq_true rfl)⟩ ⟨(Nat.le_of_ble_eq_true rfl), (Nat.le_of_ble_eq_true rfl)⟩ dX9_number_31) (fun hp_4 H locs hH => ?_)
    refine lv_iconst (v := gi (1)) hM.fx.1 hM.fx.2.1 dX9_number_34 rfl ?_
    refine r_isub hM.fx dX9_number_35 ?_
    obtain ⟨x_7, ex_7, hf⟩ := gbd hf
    refine r_go1 hH rfl (r_runS (As := [.int (gi x2), .int (gi 0), .int (gi (gwi (x_5 - 1)))]) hM hH cs_X9_56 (mX9_isIn hLC hM.ns hr2 (gcR (k := 0) (by decide)) (gwi_r _) ex_7) rfl hl.1 rfl (Nat.le_of_ble_eq_true rfl) ⟨(Nat.le_of_ble_eq_true rfl), (Nat.le_of_ble_eq_true rfl)⟩ ⟨(Nat.le_of_ble_eq_true rfl), (Nat.le_of_ble_eq_true rfl)⟩ dX9_number_36) (fun hp_6 H locs hH => ?_)
    refine r_if_eq (tgt := 51) hM.fx (gz_r hp_6) dX9_number_39 (by decide) (fun h_8 => ?_) (fun h_8 => ?_)
    · have hf := gpos h_8 hf
      refine r_ldcw (x := -1000000) hM.fx gw_1518 (by decide) dX9_number_51 ?_
      obtain rfl := Option.some.inj hf
      exact r_iret hM hH (gcR (k := -1000000) (by decide)) ⟨(Nat.le_of_ble_eq_true rfl), (Nat.le_of_ble_eq_true rfl)⟩ dX9_number_54
    · have hf := gneg' h_8 hf
      refine lv_aload_n hM.fx.1 hM.fx.2.1 dX9_number_42 rfl (lv_at hl 0 rfl) ?_
      refine lv_iload_n hM.fx.1 hM.fx.2.1 dX9_number_43 rfl (lv_at hl 1 rfl) ?_
      refine lv_iload_n hM.fx.1 hM.fx.2.1 dX9_number_44 rfl (lv_at hl 2 rfl) ?_
      obtain ⟨x_10, ex_10, hf⟩ := gbd hf
      refine r_go1 hH rfl (r_runV (As := [.int (gi x1), .int (gi x2)]) hM hH cv_X9_235 (mX9_numberOf hLC hM.ns hg0 hr1 hr2 ex_10) (hLC.in hg0 (by decide)) (by decide) rfl rfl rfl hl.1 rfl (Nat.le_of_ble_eq_true rfl) ⟨(Nat.le_of_ble_eq_true rfl), (Nat.le_of_ble_eq_true rfl)⟩ ⟨(Nat.le_of_ble_eq_true rfl), (Nat.le_of_ble_eq_true rfl)⟩ dX9_number_45) (fun hp_9 H locs hH => ?_)
      refine lv_goto (tgt := 54) hM.fx.1 hM.fx.2.1 dX9_number_48 (by decide) ?_
      obtain rfl := Option.some.inj hf
      exact r_iret hM hH hp_9 ⟨(Nat.le_of_ble_eq_true rfl), (Nat.le_of_ble_eq_true rfl)⟩ dX9_number_54
  · have hf := gneg' h_3 hf
    refine lv_iconst (v := gi (0)) hM.fx.1 hM.fx.2.1 dX9_number_24 rfl ?_
    obtain rfl := Option.some.inj hf
    exact r_iret hM hH (gcR (k := 0) (by decide)) ⟨(Nat.le_of_ble_eq_true rfl), (Nat.le_of_ble_eq_true rfl)⟩ dX9_number_25
def fX9_number (g : Nat → Nat) (a0 : Nat) (x1 : Int) (x2 : Int) (M : gMem) : Option (Int × gMem) :=
  (fX9_isStack g a0 x1 M).bind fun x_2 => if x_2 = 0 then (fX9_number_14 g a0 x1 x2 a0 1 M) else (fX9_number_14 g a0 x1 x2 a0 0 M)
set_option maxHeartbeats 4000000 in
set_option maxRecDepth 100000 in
theorem mX9_number {w : gW} {n : Nat} {Rm : Nat → Nat → Nat} {g : Nat → Nat} (hLC : gLC g n Rm) {l : Launch} (hl9 : l.stackTraces = false) {a0 : Nat} {x1 : Int} {x2 : Int} {M : gMem} {r : (Int × gMem)} (hg0 : g a0 = 9) (hr1 : gRI x1) (hr2 : gRI x2) (hf : fX9_number g a0 x1 x2 M = some r) : gMT w n Rm l yX9_number cX9_number 3 (some .int) 3 104 0 0 [.ref (w.1 + a0), .int (gi x1), .int (gi x2)] M (.inr (some (.int (gi r.1)))) r.2 (gRI r.1) := by
  unfold fX9_number at hf
  refine gMT.of hl9 (by decide +kernel) ((Nat.le_of_ble_eq_true rfl)) ?_
  intro p e s m below meth c hM hH ls hl
  have hM : gMC w p l s m ([.ref (w.1 + a0), .int (gi x1), .int (gi x2)] : List Value).toArray meth c cX9_number 3 RX9 (some .int) := hM
  have hl : lv_has ls 3 [(0, .ref (w.1 + a0)), (1, .int (gi x1)), (2, .int (gi x2))] := hl
  refine lv_aload_n hM.fx.1 hM.fx.2.1 dX9_number_0 rfl (lv_at hl 0 rfl) ?_
  refine lv_aload_n hM.fx.1 hM.fx.2.1 dX9_number_1 rfl (lv_at hl 0 rfl) ?_
  refine lv_iload_n hM.fx.1 hM.fx.2.1 dX9_number_2 rfl (lv_at hl 1 rfl) ?_
  obtain ⟨x_2, ex_2, hf⟩ := gbd hf
  refine r_go1 hH rfl (r_runV (As := [.int (gi x1)]) hM hH cv_X9_322 (mX9_isStack hLC hM.ns hg0 hr1 ex_2) (hLC.in hg0 (by decide)) (by decide) rfl rfl rfl hl.1 rfl (Nat.le_of_ble_eq_true rfl) ⟨(Nat.le_of_ble_eq_true rfl), (Nat.le_of_ble_eq_true rfl)⟩ ⟨(Nat.le_of_ble_eq_true rfl), (Nat.le_of_ble_eq_true rfl)⟩ dX9_number_3) (fun hp_1 H locs hH => ?_)
  refine r_if_eq (tgt := 13) hM.fx (gz_r hp_1) dX9_number_6 (by decide) (fun h_3 => ?_) (fun h_3 => ?_)
  · have hf := gpos h_3 hf
    refine lv_iconst (v := gi (1)) hM.fx.1 hM.fx.2.1 dX9_number_13 rfl ?_
    exact wX9_number_14 hLC hM   _ _ _ _ _ _ _ hg0 hr1 hr2 hg0 (gcR (k := 1) (by decide)) hf _ _ _ hH hl
  · have hf := gneg' h_3 hf
    refine lv_iconst (v := gi (0)) hM.fx.1 hM.fx.2.1 dX9_number_9 rfl ?_
    refine lv_goto (tgt := 14) hM.fx.1 hM.fx.2.1 dX9_number_10 (by decide) ?_
    exact wX9_number_14 hLC hM   _ _ _ _ _ _ _ hg0 hr1 hr2 hg0 (gcR (k := 0) (by decide)) hf _ _ _ hH hl
def fX9_slot_14 (g : Nat → Nat)  (a0 : Nat) (x1 : Int) (as0 : Nat) (xs1 : Int) (M : gMem) : Option (Int × gMem) :=
  gst (gup M as0 7 xs1) fun M_1 => if M_1 a0 7 ≤ 0 then ((fX9_onSlot g a0 x1 M_1).bind fun x_5 => some (x_5, M_1)) else (some (0, M_1))
set_option maxHeartbeats 4000000 in
set_option maxRecDepth 100000 in
theorem wX9_slot_14 {w : gW} {n : Nat} {Rm : Nat → Nat → Nat} {g : Nat → Nat} (hLC : gLC g n Rm) {p : Program} {l : Launch} {e : Env} {s : State} {m : MethodId} {args : Array Value} {below : List Frame} {meth : Method} {c : Code} (hM : gMC w p l s m args meth c cX9_slot 2 RX9 (some .int))  : ∀ (a0 : Nat) (x1 : Int) (as0 : Nat) (xs1 : Int) (M : gMem) (r : (Int × gMem)) (hg0 : g a0 = 9) (hr1 : gRI x1) (hgs0 : g as0 = 9) (hrs1 : gRI xs1) (hf : fX9_slot_14 g a0 x1 as0 xs1 M = some r) (H : Heap) (locs : List Loc) (ls : Array Slot) (hH : gH w n Rm M s H locs) (hl : lv_has ls 2 [(0, .ref (w.1 + a0)), (1, .int (gi x1))]), W p l e { frames := 3, cells := 0, slots := 0, locals := 104 } s m args below meth c H locs 0 0 (gQ w n Rm below args s 0 0 (.inr (some (.int (gi r.1)))) r.2 (gRI r.1)) (F0 m 14 ls [.int (gi xs1), .ref (w.1 + as0)]) := by
  intro a0 x1 as0 xs1 M r hg0 hr1 hgs0 hrs1 hf H locs ls hH hl
  unfold fX9_slot_14 at hf
  refine r_putI hM.fx hM.kf hH fp_X9_46 (hLC.in hgs0 (by decide)) hrs1 dX9_slot_14 (fun H locs hH => ?_)
  obtain ⟨M_1, eM_1, hf⟩ := gst_s hf
  rw [← eM_1] at hH
  refine lv_aload_n hM.fx.1 hM.fx.2.1 dX9_slot_17 rfl (lv_at hl 0 rfl) ?_
  refine r_getI hM.fx hM.kf hH fl_X9_46 (hLC.in hg0 (by decide)) dX9_slot_18 ?_
  have hr_2 := hH.2.2.i (hLC.in hg0 (by decide)).2.2 (by decide : glg 9 7 = false)
  refine r_if_le (tgt := 28) hM.fx hr_2 dX9_slot_21 (by decide) (fun h_3 => ?_) (fun h_3 => ?_)
  · have hf := gpos h_3 hf
    refine lv_aload_n hM.fx.1 hM.fx.2.1 dX9_slot_28 rfl (lv_at hl 0 rfl) ?_
    refine lv_iload_n hM.fx.1 hM.fx.2.1 dX9_slot_29 rfl (lv_at hl 1 rfl) ?_
    obtain ⟨x_5, ex_5, hf⟩ := gbd hf
    refine r_go1 hH rfl (r_runV (As := [.int (gi x1)]) hM hH cv_X9_216 (mX9_onSlot hLC hM.ns hg0 hr1 ex_5) (hLC.in hg0 (by decide)) (by decide) rfl rfl rfl hl.1 rfl (Nat.le_of_ble_eq_true rfl) ⟨(Nat.le_of_ble_eq_true rfl), (Nat.le_of_ble_eq_true rfl)⟩ ⟨(Nat.le_of_ble_eq_true rfl), (Nat.le_of_ble_eq_true rfl)⟩ dX9_slot_30) (fun hp_4 H locs hH => ?_)
    obtain rfl := Option.some.inj hf
    exact r_iret hM hH hp_4 ⟨(Nat.le_of_ble_eq_true rfl), (Nat.le_of_ble_eq_true rfl)⟩ dX9_slot_33
  · have hf := gneg' h_3 hf
    refine lv_iconst (v := gi (0)) hM.fx.1 hM.fx.2.1 dX9_slot_24 rfl ?_
    refine lv_goto (tgt := 33) hM.fx.1 hM.fx.2.1 dX9_slot_25 (by decide) ?_
    obtain rfl := Option.some.inj hf
    exact r_iret hM hH (gcR (k := 0) (by decide)) ⟨(Nat.le_of_ble_eq_true rfl), (Nat.le_of_ble_eq_true rfl)⟩ dX9_slot_33
def fX9_slot (g : Nat → Nat) (a0 : Nat) (x1 : Int) (M : gMem) : Option (Int × gMem) :=
  (fX9_isSlot g a0 x1 M).bind fun x_2 => if x_2 = 0 then (fX9_slot_14 g a0 x1 a0 1 M) else (fX9_slot_14 g a0 x1 a0 0 M)
set_option maxHeartbeats 4000000 in
set_option maxRecDepth 100000 in
theorem mX9_slot {w : gW} {n : Nat} {Rm : Nat → Nat → Nat} {g : Nat → Nat} (hLC : gLC g n Rm) {l : Launch} (hl9 : l.stackTraces = false) {a0 : Nat} {x1 : Int} {M : gMem} {r : (Int × gMem)} (hg0 : g a0 = 9) (hr1 : gRI x1) (hf : fX9_slot g a0 x1 M = some r) : gMT w n Rm l yX9_slot cX9_slot 2 (some .int) 3 104 0 0 [.ref (w.1 + a0), .int (gi x1)] M (.inr (some (.int (gi r.1)))) r.2 (gRI r.1) := by
  unfold fX9_slot at hf
  refine gMT.of hl9 (by decide +kernel) ((Nat.le_of_ble_eq_true rfl)) ?_
  intro p e s m below meth c hM hH ls hl
  have hM : gMC w p l s m ([.ref (w.1 + a0), .int (gi x1)] : List Value).toArray meth c cX9_slot 2 RX9 (some .int) := hM
  have hl : lv_has ls 2 [(0, .ref (w.1 + a0)), (1, .int (gi x1))] := hl
  refine lv_aload_n hM.fx.1 hM.fx.2.1 dX9_slot_0 rfl (lv_at hl 0 rfl) ?_
  refine lv_aload_n hM.fx.1 hM.fx.2.1 dX9_slot_1 rfl (lv_at hl 0 rfl) ?_
  refine lv_iload_n hM.fx.1 hM.fx.2.1 dX9_slot_2 rfl (lv_at hl 1 rfl) ?_
  obtain ⟨x_2, ex_2, hf⟩ := gbd hf
  refine r_go1 hH rfl (r_runV (As := [.int (gi x1)]) hM hH cv_X9_326 (mX9_isSlot hLC hM.ns hg0 hr1 ex_2) (hLC.in hg0 (by decide)) (by decide) rfl rfl rfl hl.1 rfl (Nat.le_of_ble_eq_true rfl) ⟨(Nat.le_of_ble_eq_true rfl), (Nat.le_of_ble_eq_true rfl)⟩ ⟨(Nat.le_of_ble_eq_true rfl), (Nat.le_of_ble_eq_true rfl)⟩ dX9_slot_3) (fun hp_1 H locs hH => ?_)
  refine r_if_eq (tgt := 13) hM.fx (gz_r hp_1) dX9_slot_6 (by decide) (fun h_3 => ?_) (fun h_3 => ?_)
  · have hf := gpos h_3 hf
    refine lv_iconst (v := gi (1)) hM.fx.1 hM.fx.2.1 dX9_slot_13 rfl ?_
    exact wX9_slot_14 hLC hM   _ _ _ _ _ _ hg0 hr1 hg0 (gcR (k := 1) (by decide)) hf _ _ _ hH hl
  · have hf := gneg' h_3 hf
    refine lv_iconst (v := gi (0)) hM.fx.1 hM.fx.2.1 dX9_slot_9 rfl ?_
    refine lv_goto (tgt := 14) hM.fx.1 hM.fx.2.1 dX9_slot_10 (by decide) ?_
    exact wX9_slot_14 hLC hM   _ _ _ _ _ _ hg0 hr1 hg0 (gcR (k := 0) (by decide)) hf _ _ _ hH hl
def fX9_command_70 (g : Nat → Nat)  (x2 : Int) (as0 : Nat) (xs1 : Int) (xs2 : Int) (M : gMem) : Option (Int × gMem) :=
  (fX9_of g as0 xs1 (gwi (xs2 + x2)) M).bind fun x_2 => some (x_2, M)
set_option maxHeartbeats 4000000 in
set_option maxRecDepth 100000 in
theorem wX9_command_70 {w : gW} {n : Nat} {Rm : Nat → Nat → Nat} {g : Nat → Nat} (hLC : gLC g n Rm) {p : Program} {l : Launch} {e : Env} {s : State} {m : MethodId} {args : Array Value} {below : List Frame} {meth : Method} {c : Code} (hM : gMC w p l s m args meth c cX9_command 4 RX9 (some .int))  : ∀ (x2 : Int) (as0 : Nat) (xs1 : Int) (xs2 : Int) (M : gMem) (r : (Int × gMem)) (hr2 : gRI x2) (hgs0 : g as0 = 9) (hrs1 : gRI xs1) (hrs2 : gRI xs2) (hf : fX9_command_70 g x2 as0 xs1 xs2 M = some r) (H : Heap) (locs : List Loc) (ls : Array Slot) (hH : gH w n Rm M s H locs) (hl : lv_has ls 4 [(2, .int (gi x2))]), W p l e { frames := 3, cells := 0, slots := 0, locals := 103 } s m args below meth c H locs 0 0 (gQ w n Rm below args s 0 0 (.inr (some (.int (gi r.1)))) r.2 (gRI r.1)) (F0 m 70 ls [.int (gi xs2), .int (gi xs1), .ref (w.1 + as0)]) := by
  intro x2 as0 xs1 xs2 M r hr2 hgs0 hrs1 hrs2 hf H locs ls hH hl
  unfold fX9_command_70 at hf
  refine lv_iload_n hM.fx.1 hM.fx.2.1 dX9_command_70 rfl (lv_at hl 0 rfl) ?_
  refine r_iadd hM.fx dX9_command_71 ?_
  obtain ⟨x_2, ex_2, hf⟩ := gbd hf
  refine r_go1 hH rfl (r_runV (As := [.int (gi xs1), .int (gi (gwi (xs2 + x2)))]) hM hH cv_X9_135 (mX9_of hLC hM.ns hgs0 hrs1 (gwi_r _) ex_2) (hLC.in hgs0 (by decide)) (by decide) rfl rfl rfl hl.1 rfl (Nat.le_of_ble_eq_true rfl) ⟨(Nat.le_of_ble_eq_true rfl), (Nat.le_of_ble_eq_true rfl)⟩ ⟨(Nat.le_of_ble_eq_true rfl), (Nat.le_of_ble_eq_true rfl)⟩ dX9_command_72) (fun hp_1 H locs hH => ?_)
  obtain rfl := Option.some.inj hf
  exact r_iret hM hH hp_1 ⟨(Nat.le_of_ble_eq_true rfl), (Nat.le_of_ble_eq_true rfl)⟩ dX9_command_75
def fX9_command_43 (g : Nat → Nat)  (a0 : Nat) (x1 : Int) (x2 : Int) (x3 : Int) (as0 : Nat) (xs1 : Int) (M : gMem) : Option (Int × gMem) :=
  gst (gup M as0 7 xs1) fun M_1 => if M_1 a0 7 ≤ 0 then (if x3 = 0 then (fX9_command_70 g x2 a0 x1 18 M_1) else (fX9_command_70 g x2 a0 x1 42 M_1)) else (some (0, M_1))
set_option maxHeartbeats 4000000 in
set_option maxRecDepth 100000 in
theorem wX9_command_43 {w : gW} {n : Nat} {Rm : Nat → Nat → Nat} {g : Nat → Nat} (hLC : gLC g n Rm) {p : Program} {l : Launch} {e : Env} {s : State} {m : MethodId} {args : Array Value} {below : List Frame} {meth : Method} {c : Code} (hM : gMC w p l s m args meth c cX9_command 4 RX9 (some .int))  : ∀ (a0 : Nat) (x1 : Int) (x2 : Int) (x3 : Int) (as0 : Nat) (xs1 : Int) (M : gMem) (r : (Int × gMem)) (hg0 : g a0 = 9) (hr1 : gRI x1) (hr2 : gRI x2) (hr3 : gRI x3) (hgs0 : g as0 = 9) (hrs1 : gRI xs1) (hf : fX9_command_43 g a0 x1 x2 x3 as0 xs1 M = some r) (H : Heap) (locs : List Loc) (ls : Array Slot) (hH : gH w n Rm M s H locs) (hl : lv_has ls 4 [(0, .ref (w.1 + a0)), (1, .int (gi x1)), (2, .int (gi x2)), (3, .int (gi x3))]), W p l e { frames := 3, cells := 0, slots := 0, locals := 103 } s m args below meth c H locs 0 0 (gQ w n Rm below args s 0 0 (.inr (some (.int (gi r.1)))) r.2 (gRI r.1)) (F0 m 43 ls [.int (gi xs1), .ref (w.1 + as0)]) := by
  intro a0 x1 x2 x3 as0 xs1 M r hg0 hr1 hr2 hr3 hgs0 hrs1 hf H locs ls hH hl
  unfold fX9_command_43 at hf
  refine r_putI hM.fx hM.kf hH fp_X9_46 (hLC.in hgs0 (by decide)) hrs1 dX9_command_43 (fun H locs hH => ?_)
  obtain ⟨M_1, eM_1, hf⟩ := gst_s hf
  rw [← eM_1] at hH
  refine lv_aload_n hM.fx.1 hM.fx.2.1 dX9_command_46 rfl (lv_at hl 0 rfl) ?_
  refine r_getI hM.fx hM.kf hH fl_X9_46 (hLC.in hg0 (by decide)) dX9_command_47 ?_
  have hr_2 := hH.2.2.i (hLC.in hg0 (by decide)).2.2 (by decide : glg 9 7 = false)
  refine r_if_le (tgt := 57) hM.fx hr_2 dX9_command_50 (by decide) (fun h_3 => ?_) (fun h_3 => ?_)
  · have hf := gpos h_3 hf
    refine lv_aload_n hM.fx.1 hM.fx.2.1 dX9_command_57 rfl (lv_at hl 0 rfl) ?_
    refine lv_iload_n hM.fx.1 hM.fx.2.1 dX9_command_58 rfl (lv_at hl 1 rfl) ?_
    refine lv_iload_n hM.fx.1 hM.fx.2.1 dX9_command_59 rfl (lv_at hl 3 rfl) ?_
    refine r_if_ne (tgt := 68) hM.fx hr3 dX9_command_60 (by decide) (fun h_4 => ?_) (fun h_4 => ?_)
    · have hf := gneg' h_4 hf
      refine lv_bipush (v := gi (42)) hM.fx.1 hM.fx.2.1 dX9_command_68 (by decide) ?_
      exact wX9_command_70 hLC hM   _ _ _ _ _ _ hr2 hg0 hr1 (gcR (k := 42) (by decide)) hf _ _ _ hH (lv_sub hl [2] rfl)
    · have hf := gpos h_4 hf
      refine lv_bipush (v := gi (18)) hM.fx.1 hM.fx.2.1 dX9_command_63 (by decide) ?_
      refine lv_goto (tgt := 70) hM.fx.1 hM.fx.2.1 dX9_command_65 (by decide) ?_
      exact wX9_command_70 hLC hM   _ _ _ _ _ _ hr2 hg0 hr1 (gcR (k := 18) (by decide)) hf _ _ _ hH (lv_sub hl [2] rfl)
  · have hf := gneg' h_3 hf
    refine lv_iconst (v := gi (0)) hM.fx.1 hM.fx.2.1 dX9_command_53 rfl ?_
    refine lv_goto (tgt := 75) hM.fx.1 hM.fx.2.1 dX9_command_54 (by decide) ?_
    obtain rfl := Option.some.inj hf
    exact r_iret hM hH (gcR (k := 0) (by decide)) ⟨(Nat.le_of_ble_eq_true rfl), (Nat.le_of_ble_eq_true rfl)⟩ dX9_command_75
def fX9_command_25 (g : Nat → Nat)  (a0 : Nat) (x1 : Int) (x2 : Int) (x3 : Int) (as0 : Nat) (M : gMem) : Option (Int × gMem) :=
  fX9_command_43 g a0 x1 x2 x3 as0 1 M
set_option maxHeartbeats 4000000 in
set_option maxRecDepth 100000 in
theorem wX9_command_25 {w : gW} {n : Nat} {Rm : Nat → Nat → Nat} {g : Nat → Nat} (hLC : gLC g n Rm) {p : Program} {l : Launch} {e : Env} {s : State} {m : MethodId} {args : Array Value} {below : List Frame} {meth : Method} {c : Code} (hM : gMC w p l s m args meth c cX9_command 4 RX9 (some .int))  : ∀ (a0 : Nat) (x1 : Int) (x2 : Int) (x3 : Int) (as0 : Nat) (M : gMem) (r : (Int × gMem)) (hg0 : g a0 = 9) (hr1 : gRI x1) (hr2 : gRI x2) (hr3 : gRI x3) (hgs0 : g as0 = 9) (hf : fX9_command_25 g a0 x1 x2 x3 as0 M = some r) (H : Heap) (locs : List Loc) (ls : Array Slot) (hH : gH w n Rm M s H locs) (hl : lv_has ls 4 [(0, .ref (w.1 + a0)), (1, .int (gi x1)), (2, .int (gi x2)), (3, .int (gi x3))]), W p l e { frames := 3, cells := 0, slots := 0, locals := 103 } s m args below meth c H locs 0 0 (gQ w n Rm below args s 0 0 (.inr (some (.int (gi r.1)))) r.2 (gRI r.1)) (F0 m 25 ls [.ref (w.1 + as0)]) := by
  intro a0 x1 x2 x3 as0 M r hg0 hr1 hr2 hr3 hgs0 hf H locs ls hH hl
  unfold fX9_command_25 at hf
  refine lv_iconst (v := gi (1)) hM.fx.1 hM.fx.2.1 dX9_command_25 rfl ?_
  refine lv_goto (tgt := 43) hM.fx.1 hM.fx.2.1 dX9_command_26 (by decide) ?_
  exact wX9_command_43 hLC hM   _ _ _ _ _ _ _ _ hg0 hr1 hr2 hr3 hgs0 (gcR (k := 1) (by decide)) hf _ _ _ hH hl
def fX9_command (g : Nat → Nat) (a0 : Nat) (x1 : Int) (x2 : Int) (x3 : Int) (M : gMem) : Option (Int × gMem) :=
  (fX9_isProcess g a0 x1 M).bind fun x_2 => if x_2 = 0 then (fX9_command_25 g a0 x1 x2 x3 a0 M) else ((fX9_of g a0 x1 3 M).bind fun x_5 => (fX9_isIn g x2 0 (gwi (x_5 - 1))).bind fun x_7 => if x_7 = 0 then (fX9_command_25 g a0 x1 x2 x3 a0 M) else ((fX9_isIn g x3 0 1).bind fun x_10 => if x_10 = 0 then (fX9_command_43 g a0 x1 x2 x3 a0 2 M) else (fX9_command_43 g a0 x1 x2 x3 a0 0 M)))
set_option maxHeartbeats 4000000 in
set_option maxRecDepth 100000 in
theorem mX9_command {w : gW} {n : Nat} {Rm : Nat → Nat → Nat} {g : Nat → Nat} (hLC : gLC g n Rm) {l : Launch} (hl9 : l.stackTraces = false) {a0 : Nat} {x1 : Int} {x2 : Int} {x3 : Int} {M : gMem} {r : (Int × gMem)} (hg0 : g a0 = 9) (hr1 : gRI x1) (hr2 : gRI x2) (hr3 : gRI x3) (hf : fX9_command g a0 x1 x2 x3 M = some r) : gMT w n Rm l yX9_command cX9_command 4 (some .int) 3 103 0 0 [.ref (w.1 + a0), .int (gi x1), .int (gi x2), .int (gi x3)] M (.inr (some (.int (gi r.1)))) r.2 (gRI r.1) := by
  unfold fX9_command at hf
  refine gMT.of hl9 (by decide +kernel) ((Nat.le_of_ble_eq_true rfl)) ?_
  intro p e s m below meth c hM hH ls hl
  have hM : gMC w p l s m ([.ref (w.1 + a0), .int (gi x1), .int (gi x2), .int (gi x3)] : List Value).toArray meth c cX9_command 4 RX9 (some .int) := hM
  have hl : lv_has ls 4 [(0, .ref (w.1 + a0)), (1, .int (gi x1)), (2, .int (gi x2)), (3, .int (gi x3))] := hl
  refine lv_aload_n hM.fx.1 hM.fx.2.1 dX9_command_0 rfl (lv_at hl 0 rfl) ?_
  refine lv_aload_n hM.fx.1 hM.fx.2.1 dX9_command_1 rfl (lv_at hl 0 rfl) ?_
  refine lv_iload_n hM.fx.1 hM.fx.2.1 dX9_command_2 rfl (lv_at hl 1 rfl) ?_
  obtain ⟨x_2, ex_2, hf⟩ := gbd hf
  refine r_go1 hH rfl (r_runV (As := [.int (gi x1)]) hM hH cv_X9_319 (mX9_isProcess hLC hM.ns hg0 hr1 ex_2) (hLC.in hg0 (by decide)) (by decide) rfl rfl rfl hl.1 rfl (Nat.le_of_ble_eq_true rfl) ⟨(Nat.le_of_ble_eq_true rfl), (Nat.le_of_ble_eq_true rfl)⟩ ⟨(Nat.le_of_ble_eq_true rfl), (Nat.le_of_ble_eq_true rfl)⟩ dX9_command_3) (fun hp_1 H locs hH => ?_)
  refine r_if_eq (tgt := 25) hM.fx (gz_r hp_1) dX9_command_6 (by decide) (fun h_3 => ?_) (fun h_3 => ?_)
  · have hf := gpos h_3 hf
    exact wX9_command_25 hLC hM   _ _ _ _ _ _ _ hg0 hr1 hr2 hr3 hg0 hf _ _ _ hH hl
  · have hf := gneg' h_3 hf
    refine lv_iload_n hM.fx.1 hM.fx.2.1 dX9_command_9 rfl (lv_at hl 2 rfl) ?_
    refine lv_iconst (v := gi (0)) hM.fx.1 hM.fx.2.1 dX9_command_10 rfl ?_
    refine lv_aload_n hM.fx.1 hM.fx.2.1 dX9_command_11 rfl (lv_at hl 0 rfl) ?_
    refine lv_iload_n hM.fx.1 hM.fx.2.1 dX9_command_12 rfl (lv_at hl 1 rfl) ?_
    refine lv_iconst (v := gi (3)) hM.fx.1 hM.fx.2.1 dX9_command_13 rfl ?_
    obtain ⟨x_5, ex_5, hf⟩ := gbd hf
    refine r_go1 hH rfl (r_runV (As := [.int (gi x1), .int (gi 3)]) hM hH cv_X9_135 (mX9_of hLC hM.ns hg0 hr1 (gcR (k := 3) (by decide)) ex_5) (hLC.in hg0 (by decide)) (by decide) rfl rfl rfl hl.1 rfl (Nat.le_of_ble_eq_true rfl) ⟨(Nat.le_of_ble_eq_true rfl), (Nat.le_of_ble_eq_true rfl)⟩ ⟨(Nat.le_of_ble_eq_true rfl), (Nat.le_of_ble_eq_true rfl)⟩ dX9_command_14) (fun hp_4 H locs hH => ?_)
    refine lv_iconst (v := gi (1)) hM.fx.1 hM.fx.2.1 dX9_command_17 rfl ?_
    refine r_isub hM.fx dX9_command_18 ?_
    obtain ⟨x_7, ex_7, hf⟩ := gbd hf
    refine r_go1 hH rfl (r_runS (As := [.int (gi x2), .int (gi 0), .int (gi (gwi (x_5 - 1)))]) hM hH cs_X9_56 (mX9_isIn hLC hM.ns hr2 (gcR (k := 0) (by decide)) (gwi_r _) ex_7) rfl hl.1 rfl (Nat.le_of_ble_eq_true rfl) ⟨(Nat.le_of_ble_eq_true rfl), (Nat.le_of_ble_eq_true rfl)⟩ ⟨(Nat.le_of_ble_eq_true rfl), (Nat.le_of_ble_eq_true rfl)⟩ dX9_command_19) (fun hp_6 H locs hH => ?_)
    refine r_if_ne (tgt := 29) hM.fx (gz_r hp_6) dX9_command_22 (by decide) (fun h_8 => ?_) (fun h_8 => ?_)
    · have hf := gneg' h_8 hf
      refine lv_iload_n hM.fx.1 hM.fx.2.1 dX9_command_29 rfl (lv_at hl 3 rfl) ?_
      refine lv_iconst (v := gi (0)) hM.fx.1 hM.fx.2.1 dX9_command_30 rfl ?_
      refine lv_iconst (v := gi (1)) hM.fx.1 hM.fx.2.1 dX9_command_31 rfl ?_
      obtain ⟨x_10, ex_10, hf⟩ := gbd hf
      refine r_go1 hH rfl (r_runS (As := [.int (gi x3), .int (gi 0), .int (gi 1)]) hM hH cs_X9_56 (mX9_isIn hLC hM.ns hr3 (gcR (k := 0) (by decide)) (gcR (k := 1) (by decide)) ex_10) rfl hl.1 rfl (Nat.le_of_ble_eq_true rfl) ⟨(Nat.le_of_ble_eq_true rfl), (Nat.le_of_ble_eq_true rfl)⟩ ⟨(Nat.le_of_ble_eq_true rfl), (Nat.le_of_ble_eq_true rfl)⟩ dX9_command_32) (fun hp_9 H locs hH => ?_)
      refine r_if_eq (tgt := 42) hM.fx (gz_r hp_9) dX9_command_35 (by decide) (fun h_11 => ?_) (fun h_11 => ?_)
      · have hf := gpos h_11 hf
        refine lv_iconst (v := gi (2)) hM.fx.1 hM.fx.2.1 dX9_command_42 rfl ?_
        exact wX9_command_43 hLC hM   _ _ _ _ _ _ _ _ hg0 hr1 hr2 hr3 hg0 (gcR (k := 2) (by decide)) hf _ _ _ hH hl
      · have hf := gneg' h_11 hf
        refine lv_iconst (v := gi (0)) hM.fx.1 hM.fx.2.1 dX9_command_38 rfl ?_
        refine lv_goto (tgt := 43) hM.fx.1 hM.fx.2.1 dX9_command_39 (by decide) ?_
        exact wX9_command_43 hLC hM   _ _ _ _ _ _ _ _ hg0 hr1 hr2 hr3 hg0 (gcR (k := 0) (by decide)) hf _ _ _ hH hl
    · have hf := gpos h_8 hf
      exact wX9_command_25 hLC hM   _ _ _ _ _ _ _ hg0 hr1 hr2 hr3 hg0 hf _ _ _ hH hl
def fX9_saidOf_33 (g : Nat → Nat)  (M : gMem) : Option Int :=
  some (-1000000)
set_option maxHeartbeats 4000000 in
set_option maxRecDepth 100000 in
theorem wX9_saidOf_33 {w : gW} {n : Nat} {Rm : Nat → Nat → Nat} {g : Nat → Nat} (hLC : gLC g n Rm) {p : Program} {l : Launch} {e : Env} {s : State} {m : MethodId} {args : Array Value} {below : List Frame} {meth : Method} {c : Code} (hM : gMC w p l s m args meth c cX9_saidOf 3 RX9 (some .int))  : ∀  (M : gMem) (r : Int)  (hf : fX9_saidOf_33 g M = some r) (H : Heap) (locs : List Loc) (ls : Array Slot) (hH : gH w n Rm M s H locs) (hl : lv_has ls 3 []), W p l e { frames := 2, cells := 0, slots := 0, locals := 82 } s m args below meth c H locs 0 0 (gQ w n Rm below args s 0 0 (.inr (some (.int (gi r)))) M (gRI r)) (F0 m 33 ls []) := by
  intro M r hf H locs ls hH hl
  unfold fX9_saidOf_33 at hf
  refine r_ldcw (x := -1000000) hM.fx gw_1518 (by decide) dX9_saidOf_33 ?_
  obtain rfl := Option.some.inj hf
  exact r_iret hM hH (gcR (k := -1000000) (by decide)) ⟨(Nat.le_of_ble_eq_true rfl), (Nat.le_of_ble_eq_true rfl)⟩ dX9_saidOf_36
def fX9_saidOf (g : Nat → Nat) (a0 : Nat) (x1 : Int) (x2 : Int) (M : gMem) : Option Int :=
  (fX9_isIn g x2 0 19).bind fun x_2 => if x_2 = 0 then (fX9_saidOf_33 g M) else ((fX9_of g a0 x1 9 M).bind fun x_5 => if x_5 ≤ x2 then (fX9_saidOf_33 g M) else ((fX9_of g a0 x1 (gwi (66 + x2)) M).bind fun x_8 => some x_8))
set_option maxHeartbeats 4000000 in
set_option maxRecDepth 100000 in
theorem mX9_saidOf {w : gW} {n : Nat} {Rm : Nat → Nat → Nat} {g : Nat → Nat} (hLC : gLC g n Rm) {l : Launch} (hl9 : l.stackTraces = false) {a0 : Nat} {x1 : Int} {x2 : Int} {M : gMem} {r : Int} (hg0 : g a0 = 9) (hr1 : gRI x1) (hr2 : gRI x2) (hf : fX9_saidOf g a0 x1 x2 M = some r) : gMT w n Rm l yX9_saidOf cX9_saidOf 3 (some .int) 2 82 0 0 [.ref (w.1 + a0), .int (gi x1), .int (gi x2)] M (.inr (some (.int (gi r)))) M (gRI r) := by
  unfold fX9_saidOf at hf
  refine gMT.of hl9 (by decide +kernel) ((Nat.le_of_ble_eq_true rfl)) ?_
  intro p e s m below meth c hM hH ls hl
  have hM : gMC w p l s m ([.ref (w.1 + a0), .int (gi x1), .int (gi x2)] : List Value).toArray meth c cX9_saidOf 3 RX9 (some .int) := hM
  have hl : lv_has ls 3 [(0, .ref (w.1 + a0)), (1, .int (gi x1)), (2, .int (gi x2))] := hl
  refine lv_iload_n hM.fx.1 hM.fx.2.1 dX9_saidOf_0 rfl (lv_at hl 2 rfl) ?_
  refine lv_iconst (v := gi (0)) hM.fx.1 hM.fx.2.1 dX9_saidOf_1 rfl ?_
  refine lv_bipush (v := gi (19)) hM.fx.1 hM.fx.2.1 dX9_saidOf_2 (by decide) ?_
  obtain ⟨x_2, ex_2, hf⟩ := gbd hf
  refine r_go1 hH rfl (r_runS (As := [.int (gi x2), .int (gi 0), .int (gi 19)]) hM hH cs_X9_56 (mX9_isIn hLC hM.ns hr2 (gcR (k := 0) (by decide)) (gcR (k := 19) (by decide)) ex_2) rfl hl.1 rfl (Nat.le_of_ble_eq_true rfl) ⟨(Nat.le_of_ble_eq_true rfl), (Nat.le_of_ble_eq_true rfl)⟩ ⟨(Nat.le_of_ble_eq_true rfl), (Nat.le_of_ble_eq_true rfl)⟩ dX9_saidOf_4) (fun hp_1 H locs hH => ?_)
  refine r_if_eq (tgt := 33) hM.fx (gz_r hp_1) dX9_saidOf_7 (by decide) (fun h_3 => ?_) (fun h_3 => ?_)
  · have hf := gpos h_3 hf
    exact wX9_saidOf_33 hLC hM   _ _ hf _ _ _ hH (lv_sub hl [] rfl)
  · have hf := gneg' h_3 hf
    refine lv_iload_n hM.fx.1 hM.fx.2.1 dX9_saidOf_10 rfl (lv_at hl 2 rfl) ?_
    refine lv_aload_n hM.fx.1 hM.fx.2.1 dX9_saidOf_11 rfl (lv_at hl 0 rfl) ?_
    refine lv_iload_n hM.fx.1 hM.fx.2.1 dX9_saidOf_12 rfl (lv_at hl 1 rfl) ?_
    refine lv_bipush (v := gi (9)) hM.fx.1 hM.fx.2.1 dX9_saidOf_13 (by decide) ?_
    obtain ⟨x_5, ex_5, hf⟩ := gbd hf
    refine r_go1 hH rfl (r_runV (As := [.int (gi x1), .int (gi 9)]) hM hH cv_X9_135 (mX9_of hLC hM.ns hg0 hr1 (gcR (k := 9) (by decide)) ex_5) (hLC.in hg0 (by decide)) (by decide) rfl rfl rfl hl.1 rfl (Nat.le_of_ble_eq_true rfl) ⟨(Nat.le_of_ble_eq_true rfl), (Nat.le_of_ble_eq_true rfl)⟩ ⟨(Nat.le_of_ble_eq_true rfl), (Nat.le_of_ble_eq_true rfl)⟩ dX9_saidOf_15) (fun hp_4 H locs hH => ?_)
    refine r_icmp_ge (tgt := 33) hM.fx hr2 hp_4 dX9_saidOf_18 (by decide) (fun h_6 => ?_) (fun h_6 => ?_)
    · have hf := gpos h_6 hf
      exact wX9_saidOf_33 hLC hM   _ _ hf _ _ _ hH (lv_sub hl [] rfl)
    · have hf := gneg' h_6 hf
      refine lv_aload_n hM.fx.1 hM.fx.2.1 dX9_saidOf_21 rfl (lv_at hl 0 rfl) ?_
      refine lv_iload_n hM.fx.1 hM.fx.2.1 dX9_saidOf_22 rfl (lv_at hl 1 rfl) ?_
      refine lv_bipush (v := gi (66)) hM.fx.1 hM.fx.2.1 dX9_saidOf_23 (by decide) ?_
      refine lv_iload_n hM.fx.1 hM.fx.2.1 dX9_saidOf_25 rfl (lv_at hl 2 rfl) ?_
      refine r_iadd hM.fx dX9_saidOf_26 ?_
      obtain ⟨x_8, ex_8, hf⟩ := gbd hf
      refine r_go1 hH rfl (r_runV (As := [.int (gi x1), .int (gi (gwi (66 + x2)))]) hM hH cv_X9_135 (mX9_of hLC hM.ns hg0 hr1 (gwi_r _) ex_8) (hLC.in hg0 (by decide)) (by decide) rfl rfl rfl hl.1 rfl (Nat.le_of_ble_eq_true rfl) ⟨(Nat.le_of_ble_eq_true rfl), (Nat.le_of_ble_eq_true rfl)⟩ ⟨(Nat.le_of_ble_eq_true rfl), (Nat.le_of_ble_eq_true rfl)⟩ dX9_saidOf_27) (fun hp_7 H locs hH => ?_)
      refine lv_goto (tgt := 36) hM.fx.1 hM.fx.2.1 dX9_saidOf_30 (by decide) ?_
      obtain rfl := Option.some.inj hf
      exact r_iret hM hH hp_7 ⟨(Nat.le_of_ble_eq_true rfl), (Nat.le_of_ble_eq_true rfl)⟩ dX9_saidOf_36
def fX9_said_14 (g : Nat → Nat)  (a0 : Nat) (x1 : Int) (x2 : Int) (as0 : Nat) (xs1 : Int) (M : gMem) : Option (Int × gMem) :=
  gst (gup M as0 7 xs1) fun M_1 => if M_1 a0 7 ≤ 0 then ((fX9_saidOf g a0 x1 x2 M_1).bind fun x_5 => some (x_5, M_1)) else (some (0, M_1))
set_option maxHeartbeats 4000000 in
set_option maxRecDepth 100000 in
theorem wX9_said_14 {w : gW} {n : Nat} {Rm : Nat → Nat → Nat} {g : Nat → Nat} (hLC : gLC g n Rm) {p : Program} {l : Launch} {e : Env} {s : State} {m : MethodId} {args : Array Value} {below : List Frame} {meth : Method} {c : Code} (hM : gMC w p l s m args meth c cX9_said 3 RX9 (some .int))  : ∀ (a0 : Nat) (x1 : Int) (x2 : Int) (as0 : Nat) (xs1 : Int) (M : gMem) (r : (Int × gMem)) (hg0 : g a0 = 9) (hr1 : gRI x1) (hr2 : gRI x2) (hgs0 : g as0 = 9) (hrs1 : gRI xs1) (hf : fX9_said_14 g a0 x1 x2 as0 xs1 M = some r) (H : Heap) (locs : List Loc) (ls : Array Slot) (hH : gH w n Rm M s H locs) (hl : lv_has ls 3 [(0, .ref (w.1 + a0)), (1, .int (gi x1)), (2, .int (gi x2))]), W p l e { frames := 3, cells := 0, slots := 0, locals := 104 } s m args below meth c H locs 0 0 (gQ w n Rm below args s 0 0 (.inr (some (.int (gi r.1)))) r.2 (gRI r.1)) (F0 m 14 ls [.int (gi xs1), .ref (w.1 + as0)]) := by
  intro a0 x1 x2 as0 xs1 M r hg0 hr1 hr2 hgs0 hrs1 hf H locs ls hH hl
  unfold fX9_said_14 at hf
  refine r_putI hM.fx hM.kf hH fp_X9_46 (hLC.in hgs0 (by decide)) hrs1 dX9_said_14 (fun H locs hH => ?_)
  obtain ⟨M_1, eM_1, hf⟩ := gst_s hf
  rw [← eM_1] at hH
  refine lv_aload_n hM.fx.1 hM.fx.2.1 dX9_said_17 rfl (lv_at hl 0 rfl) ?_
  refine r_getI hM.fx hM.kf hH fl_X9_46 (hLC.in hg0 (by decide)) dX9_said_18 ?_
  have hr_2 := hH.2.2.i (hLC.in hg0 (by decide)).2.2 (by decide : glg 9 7 = false)
  refine r_if_le (tgt := 28) hM.fx hr_2 dX9_said_21 (by decide) (fun h_3 => ?_) (fun h_3 => ?_)
  · have hf := gpos h_3 hf
    refine lv_aload_n hM.fx.1 hM.fx.2.1 dX9_said_28 rfl (lv_at hl 0 rfl) ?_
    refine lv_iload_n hM.fx.1 hM.fx.2.1 dX9_said_29 rfl (lv_at hl 1 rfl) ?_
    refine lv_iload_n hM.fx.1 hM.fx.2.1 dX9_said_30 rfl (lv_at hl 2 rfl) ?_
    obtain ⟨x_5, ex_5, hf⟩ := gbd hf
    refine r_go1 hH rfl (r_runV (As := [.int (gi x1), .int (gi x2)]) hM hH cv_X9_329 (mX9_saidOf hLC hM.ns hg0 hr1 hr2 ex_5) (hLC.in hg0 (by decide)) (by decide) rfl rfl rfl hl.1 rfl (Nat.le_of_ble_eq_true rfl) ⟨(Nat.le_of_ble_eq_true rfl), (Nat.le_of_ble_eq_true rfl)⟩ ⟨(Nat.le_of_ble_eq_true rfl), (Nat.le_of_ble_eq_true rfl)⟩ dX9_said_31) (fun hp_4 H locs hH => ?_)
    obtain rfl := Option.some.inj hf
    exact r_iret hM hH hp_4 ⟨(Nat.le_of_ble_eq_true rfl), (Nat.le_of_ble_eq_true rfl)⟩ dX9_said_34
  · have hf := gneg' h_3 hf
    refine lv_iconst (v := gi (0)) hM.fx.1 hM.fx.2.1 dX9_said_24 rfl ?_
    refine lv_goto (tgt := 34) hM.fx.1 hM.fx.2.1 dX9_said_25 (by decide) ?_
    obtain rfl := Option.some.inj hf
    exact r_iret hM hH (gcR (k := 0) (by decide)) ⟨(Nat.le_of_ble_eq_true rfl), (Nat.le_of_ble_eq_true rfl)⟩ dX9_said_34
def fX9_said (g : Nat → Nat) (a0 : Nat) (x1 : Int) (x2 : Int) (M : gMem) : Option (Int × gMem) :=
  (fX9_isProcess g a0 x1 M).bind fun x_2 => if x_2 = 0 then (fX9_said_14 g a0 x1 x2 a0 1 M) else (fX9_said_14 g a0 x1 x2 a0 0 M)
set_option maxHeartbeats 4000000 in
set_option maxRecDepth 100000 in
theorem mX9_said {w : gW} {n : Nat} {Rm : Nat → Nat → Nat} {g : Nat → Nat} (hLC : gLC g n Rm) {l : Launch} (hl9 : l.stackTraces = false) {a0 : Nat} {x1 : Int} {x2 : Int} {M : gMem} {r : (Int × gMem)} (hg0 : g a0 = 9) (hr1 : gRI x1) (hr2 : gRI x2) (hf : fX9_said g a0 x1 x2 M = some r) : gMT w n Rm l yX9_said cX9_said 3 (some .int) 3 104 0 0 [.ref (w.1 + a0), .int (gi x1), .int (gi x2)] M (.inr (some (.int (gi r.1)))) r.2 (gRI r.1) := by
  unfold fX9_said at hf
  refine gMT.of hl9 (by decide +kernel) ((Nat.le_of_ble_eq_true rfl)) ?_
  intro p e s m below meth c hM hH ls hl
  have hM : gMC w p l s m ([.ref (w.1 + a0), .int (gi x1), .int (gi x2)] : List Value).toArray meth c cX9_said 3 RX9 (some .int) := hM
  have hl : lv_has ls 3 [(0, .ref (w.1 + a0)), (1, .int (gi x1)), (2, .int (gi x2))] := hl
  refine lv_aload_n hM.fx.1 hM.fx.2.1 dX9_said_0 rfl (lv_at hl 0 rfl) ?_
  refine lv_aload_n hM.fx.1 hM.fx.2.1 dX9_said_1 rfl (lv_at hl 0 rfl) ?_
  refine lv_iload_n hM.fx.1 hM.fx.2.1 dX9_said_2 rfl (lv_at hl 1 rfl) ?_
  obtain ⟨x_2, ex_2, hf⟩ := gbd hf
  refine r_go1 hH rfl (r_runV (As := [.int (gi x1)]) hM hH cv_X9_319 (mX9_isProcess hLC hM.ns hg0 hr1 ex_2) (hLC.in hg0 (by decide)) (by decide) rfl rfl rfl hl.1 rfl (Nat.le_of_ble_eq_true rfl) ⟨(Nat.le_of_ble_eq_true rfl), (Nat.le_of_ble_eq_true rfl)⟩ ⟨(Nat.le_of_ble_eq_true rfl), (Nat.le_of_ble_eq_true rfl)⟩ dX9_said_3) (fun hp_1 H locs hH => ?_)
  refine r_if_eq (tgt := 13) hM.fx (gz_r hp_1) dX9_said_6 (by decide) (fun h_3 => ?_) (fun h_3 => ?_)
  · have hf := gpos h_3 hf
    refine lv_iconst (v := gi (1)) hM.fx.1 hM.fx.2.1 dX9_said_13 rfl ?_
    exact wX9_said_14 hLC hM   _ _ _ _ _ _ _ hg0 hr1 hr2 hg0 (gcR (k := 1) (by decide)) hf _ _ _ hH hl
  · have hf := gneg' h_3 hf
    refine lv_iconst (v := gi (0)) hM.fx.1 hM.fx.2.1 dX9_said_9 rfl ?_
    refine lv_goto (tgt := 14) hM.fx.1 hM.fx.2.1 dX9_said_10 (by decide) ?_
    exact wX9_said_14 hLC hM   _ _ _ _ _ _ _ hg0 hr1 hr2 hg0 (gcR (k := 0) (by decide)) hf _ _ _ hH hl
def fX9_trace_35 (g : Nat → Nat)  (a0 : Nat) (x1 : Int) (x2 : Int) (as0 : Nat) (xs1 : Int) (M : gMem) : Option (Int × gMem) :=
  gst (gup M as0 7 xs1) fun M_1 => if M_1 a0 7 ≤ 0 then (if (0 : Int) ≤ 5 ∧ (5 : Int) < 1190 then if (0 : Int) ≤ gwi (gwi (1030 + gwi (4 * gwi (gwi (M_1 (a0 + 1) (5 : Int).toNat - 1) - x1))) + x2) ∧ (gwi (gwi (1030 + gwi (4 * gwi (gwi (M_1 (a0 + 1) (5 : Int).toNat - 1) - x1))) + x2) : Int) < 1190 then some (M_1 (a0 + 1) (gwi (gwi (1030 + gwi (4 * gwi (gwi (M_1 (a0 + 1) (5 : Int).toNat - 1) - x1))) + x2)).toNat, M_1) else none else none) else (some (0, M_1))
set_option maxHeartbeats 4000000 in
set_option maxRecDepth 100000 in
theorem wX9_trace_35 {w : gW} {n : Nat} {Rm : Nat → Nat → Nat} {g : Nat → Nat} (hLC : gLC g n Rm) {p : Program} {l : Launch} {e : Env} {s : State} {m : MethodId} {args : Array Value} {below : List Frame} {meth : Method} {c : Code} (hM : gMC w p l s m args meth c cX9_trace 3 RX9 (some .int))  : ∀ (a0 : Nat) (x1 : Int) (x2 : Int) (as0 : Nat) (xs1 : Int) (M : gMem) (r : (Int × gMem)) (hg0 : g a0 = 9) (hr1 : gRI x1) (hr2 : gRI x2) (hgs0 : g as0 = 9) (hrs1 : gRI xs1) (hf : fX9_trace_35 g a0 x1 x2 as0 xs1 M = some r) (H : Heap) (locs : List Loc) (ls : Array Slot) (hH : gH w n Rm M s H locs) (hl : lv_has ls 3 [(0, .ref (w.1 + a0)), (1, .int (gi x1)), (2, .int (gi x2))]), W p l e { frames := 2, cells := 0, slots := 0, locals := 82 } s m args below meth c H locs 0 0 (gQ w n Rm below args s 0 0 (.inr (some (.int (gi r.1)))) r.2 (gRI r.1)) (F0 m 35 ls [.int (gi xs1), .ref (w.1 + as0)]) := by
  intro a0 x1 x2 as0 xs1 M r hg0 hr1 hr2 hgs0 hrs1 hf H locs ls hH hl
  unfold fX9_trace_35 at hf
  refine r_putI hM.fx hM.kf hH fp_X9_46 (hLC.in hgs0 (by decide)) hrs1 dX9_trace_35 (fun H locs hH => ?_)
  obtain ⟨M_1, eM_1, hf⟩ := gst_s hf
  rw [← eM_1] at hH
  refine lv_aload_n hM.fx.1 hM.fx.2.1 dX9_trace_38 rfl (lv_at hl 0 rfl) ?_
  refine r_getI hM.fx hM.kf hH fl_X9_46 (hLC.in hg0 (by decide)) dX9_trace_39 ?_
  have hr_2 := hH.2.2.i (hLC.in hg0 (by decide)).2.2 (by decide : glg 9 7 = false)
  refine r_if_le (tgt := 49) hM.fx hr_2 dX9_trace_42 (by decide) (fun h_3 => ?_) (fun h_3 => ?_)
  · have hf := gpos h_3 hf
    refine lv_aload_n hM.fx.1 hM.fx.2.1 dX9_trace_49 rfl (lv_at hl 0 rfl) ?_
    refine r_getR hM.fx hM.kf hH hLC fl_X9_7 hg0 gch_9_0 dX9_trace_50 ?_
    refine lv_sipush (v := gi (1030)) hM.fx.1 hM.fx.2.1 dX9_trace_53 (by decide) ?_
    refine lv_iconst (v := gi (4)) hM.fx.1 hM.fx.2.1 dX9_trace_56 rfl ?_
    refine lv_aload_n hM.fx.1 hM.fx.2.1 dX9_trace_57 rfl (lv_at hl 0 rfl) ?_
    refine r_getR hM.fx hM.kf hH hLC fl_X9_7 hg0 gch_9_0 dX9_trace_58 ?_
    refine lv_iconst (v := gi (5)) hM.fx.1 hM.fx.2.1 dX9_trace_61 rfl ?_
    obtain ⟨g_4, hf⟩ := gif hf
    refine r_iald hM.fx hM.kf hH (hLC.in (hLC.ch hg0 (by decide) gch_9_0) (by decide)) (⟨by decide, by decide⟩ : gAr 19056 0) (gcR (k := 5) (by decide)) g_4 dX9_trace_62 ?_
    have hr_5 := hH.2.2.i (k := (5 : Int).toNat) (hLC.in (hLC.ch hg0 (by decide) gch_9_0) (by decide)).2.2 (glg_a (⟨by decide, by decide⟩ : gAr 19056 0))
    refine lv_iconst (v := gi (1)) hM.fx.1 hM.fx.2.1 dX9_trace_63 rfl ?_
    refine r_isub hM.fx dX9_trace_64 ?_
    refine lv_iload_n hM.fx.1 hM.fx.2.1 dX9_trace_65 rfl (lv_at hl 1 rfl) ?_
    refine r_isub hM.fx dX9_trace_66 ?_
    refine r_imul hM.fx dX9_trace_67 ?_
    refine r_iadd hM.fx dX9_trace_68 ?_
    refine lv_iload_n hM.fx.1 hM.fx.2.1 dX9_trace_69 rfl (lv_at hl 2 rfl) ?_
    refine r_iadd hM.fx dX9_trace_70 ?_
    obtain ⟨g_6, hf⟩ := gif hf
    refine r_iald hM.fx hM.kf hH (hLC.in (hLC.ch hg0 (by decide) gch_9_0) (by decide)) (⟨by decide, by decide⟩ : gAr 19056 0) (gwi_r _) g_6 dX9_trace_71 ?_
    have hr_7 := hH.2.2.i (k := (gwi (gwi (1030 + gwi (4 * gwi (gwi (M_1 (a0 + 1) (5 : Int).toNat - 1) - x1))) + x2)).toNat) (hLC.in (hLC.ch hg0 (by decide) gch_9_0) (by decide)).2.2 (glg_a (⟨by decide, by decide⟩ : gAr 19056 0))
    obtain rfl := Option.some.inj hf
    exact r_iret hM hH hr_7 ⟨(Nat.le_of_ble_eq_true rfl), (Nat.le_of_ble_eq_true rfl)⟩ dX9_trace_72
  · have hf := gneg' h_3 hf
    refine lv_iconst (v := gi (0)) hM.fx.1 hM.fx.2.1 dX9_trace_45 rfl ?_
    refine lv_goto (tgt := 72) hM.fx.1 hM.fx.2.1 dX9_trace_46 (by decide) ?_
    obtain rfl := Option.some.inj hf
    exact r_iret hM hH (gcR (k := 0) (by decide)) ⟨(Nat.le_of_ble_eq_true rfl), (Nat.le_of_ble_eq_true rfl)⟩ dX9_trace_72
def fX9_trace (g : Nat → Nat) (a0 : Nat) (x1 : Int) (x2 : Int) (M : gMem) : Option (Int × gMem) :=
  if (0 : Int) ≤ 5 ∧ (5 : Int) < 1190 then (fX9_isIn g x1 0 (gwi (M (a0 + 1) (5 : Int).toNat - 1))).bind fun x_4 => if x_4 = 0 then (fX9_trace_35 g a0 x1 x2 a0 1 M) else ((fX9_isIn g x2 0 3).bind fun x_7 => if x_7 = 0 then (fX9_trace_35 g a0 x1 x2 a0 2 M) else (fX9_trace_35 g a0 x1 x2 a0 0 M)) else none
set_option maxHeartbeats 4000000 in
set_option maxRecDepth 100000 in
theorem mX9_trace {w : gW} {n : Nat} {Rm : Nat → Nat → Nat} {g : Nat → Nat} (hLC : gLC g n Rm) {l : Launch} (hl9 : l.stackTraces = false) {a0 : Nat} {x1 : Int} {x2 : Int} {M : gMem} {r : (Int × gMem)} (hg0 : g a0 = 9) (hr1 : gRI x1) (hr2 : gRI x2) (hf : fX9_trace g a0 x1 x2 M = some r) : gMT w n Rm l yX9_trace cX9_trace 3 (some .int) 2 82 0 0 [.ref (w.1 + a0), .int (gi x1), .int (gi x2)] M (.inr (some (.int (gi r.1)))) r.2 (gRI r.1) := by
  unfold fX9_trace at hf
  refine gMT.of hl9 (by decide +kernel) ((Nat.le_of_ble_eq_true rfl)) ?_
  intro p e s m below meth c hM hH ls hl
  have hM : gMC w p l s m ([.ref (w.1 + a0), .int (gi x1), .int (gi x2)] : List Value).toArray meth c cX9_trace 3 RX9 (some .int) := hM
  have hl : lv_has ls 3 [(0, .ref (w.1 + a0)), (1, .int (gi x1)), (2, .int (gi x2))] := hl
  refine lv_aload_n hM.fx.1 hM.fx.2.1 dX9_trace_0 rfl (lv_at hl 0 rfl) ?_
  refine lv_iload_n hM.fx.1 hM.fx.2.1 dX9_trace_1 rfl (lv_at hl 1 rfl) ?_
  refine lv_iconst (v := gi (0)) hM.fx.1 hM.fx.2.1 dX9_trace_2 rfl ?_
  refine lv_aload_n hM.fx.1 hM.fx.2.1 dX9_trace_3 rfl (lv_at hl 0 rfl) ?_
  refine r_getR hM.fx hM.kf hH hLC fl_X9_7 hg0 gch_9_0 dX9_trace_4 ?_
  refine lv_iconst (v := gi (5)) hM.fx.1 hM.fx.2.1 dX9_trace_7 rfl ?_
  obtain ⟨g_1, hf⟩ := gif hf
  refine r_iald hM.fx hM.kf hH (hLC.in (hLC.ch hg0 (by decide) gch_9_0) (by decide)) (⟨by decide, by decide⟩ : gAr 19056 0) (gcR (k := 5) (by decide)) g_1 dX9_trace_8 ?_
  have hr_2 := hH.2.2.i (k := (5 : Int).toNat) (hLC.in (hLC.ch hg0 (by decide) gch_9_0) (by decide)).2.2 (glg_a (⟨by decide, by decide⟩ : gAr 19056 0))
  refine lv_iconst (v := gi (1)) hM.fx.1 hM.fx.2.1 dX9_trace_9 rfl ?_
  refine r_isub hM.fx dX9_trace_10 ?_
  obtain ⟨x_4, ex_4, hf⟩ := gbd hf
  refine r_go1 hH rfl (r_runS (As := [.int (gi x1), .int (gi 0), .int (gi (gwi (M (a0 + 1) (5 : Int).toNat - 1)))]) hM hH cs_X9_56 (mX9_isIn hLC hM.ns hr1 (gcR (k := 0) (by decide)) (gwi_r _) ex_4) rfl hl.1 rfl (Nat.le_of_ble_eq_true rfl) ⟨(Nat.le_of_ble_eq_true rfl), (Nat.le_of_ble_eq_true rfl)⟩ ⟨(Nat.le_of_ble_eq_true rfl), (Nat.le_of_ble_eq_true rfl)⟩ dX9_trace_11) (fun hp_3 H locs hH => ?_)
  refine r_if_ne (tgt := 21) hM.fx (gz_r hp_3) dX9_trace_14 (by decide) (fun h_5 => ?_) (fun h_5 => ?_)
  · have hf := gneg' h_5 hf
    refine lv_iload_n hM.fx.1 hM.fx.2.1 dX9_trace_21 rfl (lv_at hl 2 rfl) ?_
    refine lv_iconst (v := gi (0)) hM.fx.1 hM.fx.2.1 dX9_trace_22 rfl ?_
    refine lv_iconst (v := gi (3)) hM.fx.1 hM.fx.2.1 dX9_trace_23 rfl ?_
    obtain ⟨x_7, ex_7, hf⟩ := gbd hf
    refine r_go1 hH rfl (r_runS (As := [.int (gi x2), .int (gi 0), .int (gi 3)]) hM hH cs_X9_56 (mX9_isIn hLC hM.ns hr2 (gcR (k := 0) (by decide)) (gcR (k := 3) (by decide)) ex_7) rfl hl.1 rfl (Nat.le_of_ble_eq_true rfl) ⟨(Nat.le_of_ble_eq_true rfl), (Nat.le_of_ble_eq_true rfl)⟩ ⟨(Nat.le_of_ble_eq_true rfl), (Nat.le_of_ble_eq_true rfl)⟩ dX9_trace_24) (fun hp_6 H locs hH => ?_)
    refine r_if_eq (tgt := 34) hM.fx (gz_r hp_6) dX9_trace_27 (by decide) (fun h_8 => ?_) (fun h_8 => ?_)
    · have hf := gpos h_8 hf
      refine lv_iconst (v := gi (2)) hM.fx.1 hM.fx.2.1 dX9_trace_34 rfl ?_
      exact wX9_trace_35 hLC hM   _ _ _ _ _ _ _ hg0 hr1 hr2 hg0 (gcR (k := 2) (by decide)) hf _ _ _ hH hl
    · have hf := gneg' h_8 hf
      refine lv_iconst (v := gi (0)) hM.fx.1 hM.fx.2.1 dX9_trace_30 rfl ?_
      refine lv_goto (tgt := 35) hM.fx.1 hM.fx.2.1 dX9_trace_31 (by decide) ?_
      exact wX9_trace_35 hLC hM   _ _ _ _ _ _ _ hg0 hr1 hr2 hg0 (gcR (k := 0) (by decide)) hf _ _ _ hH hl
  · have hf := gpos h_5 hf
    refine lv_iconst (v := gi (1)) hM.fx.1 hM.fx.2.1 dX9_trace_17 rfl ?_
    refine lv_goto (tgt := 35) hM.fx.1 hM.fx.2.1 dX9_trace_18 (by decide) ?_
    exact wX9_trace_35 hLC hM   _ _ _ _ _ _ _ hg0 hr1 hr2 hg0 (gcR (k := 1) (by decide)) hf _ _ _ hH hl
def fX9_whyStuck_14 (g : Nat → Nat)  (a0 : Nat) (x1 : Int) (as0 : Nat) (xs1 : Int) (M : gMem) : Option (Int × gMem) :=
  gst (gup M as0 7 xs1) fun M_1 => if M_1 a0 7 ≤ 0 then ((fX9_stuckBy g a0 x1 M_1).bind fun x_5 => some (x_5, M_1)) else (some (0, M_1))
set_option maxHeartbeats 4000000 in
set_option maxRecDepth 100000 in
theorem wX9_whyStuck_14 {w : gW} {n : Nat} {Rm : Nat → Nat → Nat} {g : Nat → Nat} (hLC : gLC g n Rm) {p : Program} {l : Launch} {e : Env} {s : State} {m : MethodId} {args : Array Value} {below : List Frame} {meth : Method} {c : Code} (hM : gMC w p l s m args meth c cX9_whyStuck 2 RX9 (some .int))  : ∀ (a0 : Nat) (x1 : Int) (as0 : Nat) (xs1 : Int) (M : gMem) (r : (Int × gMem)) (hg0 : g a0 = 9) (hr1 : gRI x1) (hgs0 : g as0 = 9) (hrs1 : gRI xs1) (hf : fX9_whyStuck_14 g a0 x1 as0 xs1 M = some r) (H : Heap) (locs : List Loc) (ls : Array Slot) (hH : gH w n Rm M s H locs) (hl : lv_has ls 2 [(0, .ref (w.1 + a0)), (1, .int (gi x1))]), W p l e { frames := 6, cells := 0, slots := 0, locals := 177 } s m args below meth c H locs 0 0 (gQ w n Rm below args s 0 0 (.inr (some (.int (gi r.1)))) r.2 (gRI r.1)) (F0 m 14 ls [.int (gi xs1), .ref (w.1 + as0)]) := by
  intro a0 x1 as0 xs1 M r hg0 hr1 hgs0 hrs1 hf H locs ls hH hl
  unfold fX9_whyStuck_14 at hf
  refine r_putI hM.fx hM.kf hH fp_X9_46 (hLC.in hgs0 (by decide)) hrs1 dX9_whyStuck_14 (fun H locs hH => ?_)
  obtain ⟨M_1, eM_1, hf⟩ := gst_s hf
  rw [← eM_1] at hH
  refine lv_aload_n hM.fx.1 hM.fx.2.1 dX9_whyStuck_17 rfl (lv_at hl 0 rfl) ?_
  refine r_getI hM.fx hM.kf hH fl_X9_46 (hLC.in hg0 (by decide)) dX9_whyStuck_18 ?_
  have hr_2 := hH.2.2.i (hLC.in hg0 (by decide)).2.2 (by decide : glg 9 7 = false)
  refine r_if_le (tgt := 28) hM.fx hr_2 dX9_whyStuck_21 (by decide) (fun h_3 => ?_) (fun h_3 => ?_)
  · have hf := gpos h_3 hf
    refine lv_aload_n hM.fx.1 hM.fx.2.1 dX9_whyStuck_28 rfl (lv_at hl 0 rfl) ?_
    refine lv_iload_n hM.fx.1 hM.fx.2.1 dX9_whyStuck_29 rfl (lv_at hl 1 rfl) ?_
    obtain ⟨x_5, ex_5, hf⟩ := gbd hf
    refine r_go1 hH rfl (r_runV (As := [.int (gi x1)]) hM hH cv_X9_261 (mX9_stuckBy hLC hM.ns hg0 hr1 ex_5) (hLC.in hg0 (by decide)) (by decide) rfl rfl rfl hl.1 rfl (Nat.le_of_ble_eq_true rfl) ⟨(Nat.le_of_ble_eq_true rfl), (Nat.le_of_ble_eq_true rfl)⟩ ⟨(Nat.le_of_ble_eq_true rfl), (Nat.le_of_ble_eq_true rfl)⟩ dX9_whyStuck_30) (fun hp_4 H locs hH => ?_)
    obtain rfl := Option.some.inj hf
    exact r_iret hM hH hp_4 ⟨(Nat.le_of_ble_eq_true rfl), (Nat.le_of_ble_eq_true rfl)⟩ dX9_whyStuck_33
  · have hf := gneg' h_3 hf
    refine lv_iconst (v := gi (0)) hM.fx.1 hM.fx.2.1 dX9_whyStuck_24 rfl ?_
    refine lv_goto (tgt := 33) hM.fx.1 hM.fx.2.1 dX9_whyStuck_25 (by decide) ?_
    obtain rfl := Option.some.inj hf
    exact r_iret hM hH (gcR (k := 0) (by decide)) ⟨(Nat.le_of_ble_eq_true rfl), (Nat.le_of_ble_eq_true rfl)⟩ dX9_whyStuck_33
def fX9_whyStuck (g : Nat → Nat) (a0 : Nat) (x1 : Int) (M : gMem) : Option (Int × gMem) :=
  (fX9_isProcess g a0 x1 M).bind fun x_2 => if x_2 = 0 then (fX9_whyStuck_14 g a0 x1 a0 1 M) else (fX9_whyStuck_14 g a0 x1 a0 0 M)
set_option maxHeartbeats 4000000 in
set_option maxRecDepth 100000 in
theorem mX9_whyStuck {w : gW} {n : Nat} {Rm : Nat → Nat → Nat} {g : Nat → Nat} (hLC : gLC g n Rm) {l : Launch} (hl9 : l.stackTraces = false) {a0 : Nat} {x1 : Int} {M : gMem} {r : (Int × gMem)} (hg0 : g a0 = 9) (hr1 : gRI x1) (hf : fX9_whyStuck g a0 x1 M = some r) : gMT w n Rm l yX9_whyStuck cX9_whyStuck 2 (some .int) 6 177 0 0 [.ref (w.1 + a0), .int (gi x1)] M (.inr (some (.int (gi r.1)))) r.2 (gRI r.1) := by
  unfold fX9_whyStuck at hf
  refine gMT.of hl9 (by decide +kernel) ((Nat.le_of_ble_eq_true rfl)) ?_
  intro p e s m below meth c hM hH ls hl
  have hM : gMC w p l s m ([.ref (w.1 + a0), .int (gi x1)] : List Value).toArray meth c cX9_whyStuck 2 RX9 (some .int) := hM
  have hl : lv_has ls 2 [(0, .ref (w.1 + a0)), (1, .int (gi x1))] := hl
  refine lv_aload_n hM.fx.1 hM.fx.2.1 dX9_whyStuck_0 rfl (lv_at hl 0 rfl) ?_
  refine lv_aload_n hM.fx.1 hM.fx.2.1 dX9_whyStuck_1 rfl (lv_at hl 0 rfl) ?_
  refine lv_iload_n hM.fx.1 hM.fx.2.1 dX9_whyStuck_2 rfl (lv_at hl 1 rfl) ?_
  obtain ⟨x_2, ex_2, hf⟩ := gbd hf
  refine r_go1 hH rfl (r_runV (As := [.int (gi x1)]) hM hH cv_X9_319 (mX9_isProcess hLC hM.ns hg0 hr1 ex_2) (hLC.in hg0 (by decide)) (by decide) rfl rfl rfl hl.1 rfl (Nat.le_of_ble_eq_true rfl) ⟨(Nat.le_of_ble_eq_true rfl), (Nat.le_of_ble_eq_true rfl)⟩ ⟨(Nat.le_of_ble_eq_true rfl), (Nat.le_of_ble_eq_true rfl)⟩ dX9_whyStuck_3) (fun hp_1 H locs hH => ?_)
  refine r_if_eq (tgt := 13) hM.fx (gz_r hp_1) dX9_whyStuck_6 (by decide) (fun h_3 => ?_) (fun h_3 => ?_)
  · have hf := gpos h_3 hf
    refine lv_iconst (v := gi (1)) hM.fx.1 hM.fx.2.1 dX9_whyStuck_13 rfl ?_
    exact wX9_whyStuck_14 hLC hM   _ _ _ _ _ _ hg0 hr1 hg0 (gcR (k := 1) (by decide)) hf _ _ _ hH hl
  · have hf := gneg' h_3 hf
    refine lv_iconst (v := gi (0)) hM.fx.1 hM.fx.2.1 dX9_whyStuck_9 rfl ?_
    refine lv_goto (tgt := 14) hM.fx.1 hM.fx.2.1 dX9_whyStuck_10 (by decide) ?_
    exact wX9_whyStuck_14 hLC hM   _ _ _ _ _ _ hg0 hr1 hg0 (gcR (k := 0) (by decide)) hf _ _ _ hH hl
def fX9_stuck_35 (g : Nat → Nat) (k9 : Nat → Int → Int → gMem → Option (Int × gMem)) (a0 : Nat) (x2 : Int) (xs0 : Int) (xs1 : Int) (M : gMem) : Option (Int × gMem) :=
  gst (gor xs0 xs1) fun x_1 => gst (gwi (x2 + 1)) fun x_2 => k9 a0 x_1 x_2 M
set_option maxHeartbeats 4000000 in
set_option maxRecDepth 100000 in
theorem wX9_stuck_35 {w : gW} {n : Nat} {Rm : Nat → Nat → Nat} {g : Nat → Nat} (hLC : gLC g n Rm) {p : Program} {l : Launch} {e : Env} {s : State} {m : MethodId} {args : Array Value} {below : List Frame} {meth : Method} {c : Code} (hM : gMC w p l s m args meth c cX9_stuck 3 RX9 (some .int)) (k9 : Nat → Int → Int → gMem → Option (Int × gMem)) (hk9 : ∀ (a0 : Nat) (x1 : Int) (x2 : Int) (M : gMem) (r : (Int × gMem)) (hg0 : g a0 = 9) (hr1 : gRI x1) (hr2 : gRI x2) (hf : k9 a0 x1 x2 M = some r) (H : Heap) (locs : List Loc) (ls : Array Slot) (hH : gH w n Rm M s H locs) (hl : lv_has ls 3 [(0, .ref (w.1 + a0)), (1, .int (gi x1)), (2, .int (gi x2))]), W p l e { frames := 6, cells := 0, slots := 0, locals := 177 } s m args below meth c H locs 0 0 (gQ w n Rm below args s 0 0 (.inr (some (.int (gi r.1)))) r.2 (gRI r.1)) (F0 m 9 ls [])) : ∀ (a0 : Nat) (x2 : Int) (xs0 : Int) (xs1 : Int) (M : gMem) (r : (Int × gMem)) (hg0 : g a0 = 9) (hr2 : gRI x2) (hrs0 : gRI xs0) (hrs1 : gRI xs1) (hf : fX9_stuck_35 g k9 a0 x2 xs0 xs1 M = some r) (H : Heap) (locs : List Loc) (ls : Array Slot) (hH : gH w n Rm M s H locs) (hl : lv_has ls 3 [(0, .ref (w.1 + a0)), (2, .int (gi x2))]), W p l e { frames := 6, cells := 0, slots := 0, locals := 177 } s m args below meth c H locs 0 0 (gQ w n Rm below args s 0 0 (.inr (some (.int (gi r.1)))) r.2 (gRI r.1)) (F0 m 35 ls [.int (gi xs1), .int (gi xs0)]) := by
  intro a0 x2 xs0 xs1 M r hg0 hr2 hrs0 hrs1 hf H locs ls hH hl
  unfold fX9_stuck_35 at hf
  refine r_ior hM.fx dX9_stuck_35 ?_
  obtain ⟨x_1, ex_1, hf⟩ := gst_s hf
  refine W.eq (g2 := F0 m _ ls (.int (gi x_1) :: _)) (by rw [ex_1]) ?_
  have hx_1 : gRI x_1 := by rw [ex_1]; exact (gi_r _)
  refine lv_istore_n (lv' := [(1, .int (gi x_1)), (0, .ref (w.1 + a0)), (2, .int (gi x2))]) hM.fx.1 hM.fx.2.1 dX9_stuck_36 rfl hl (by decide) rfl (fun ls hl => ?_)
  obtain ⟨x_2, ex_2, hf⟩ := gst_s hf
  have hx_2 : gRI x_2 := by rw [ex_2]; exact gwi_r _
  refine r_iinc (lv' := [(2, .int (gi x_2)), (1, .int (gi x_1)), (0, .ref (w.1 + a0))]) hM.fx dX9_stuck_37 hl (k := 2) rfl (by decide) (by rw [ex_2]; rfl) (fun ls hl => ?_)
  refine lv_goto (tgt := 9) hM.fx.1 hM.fx.2.1 dX9_stuck_40 (by decide) ?_
  exact hk9 _ _ _ _ _ hg0 hx_1 hx_2 hf _ _ _ hH (lv_sub hl [2, 1, 0] rfl)
def fX9_stuck_9 (g : Nat → Nat)  : Nat → Nat → Int → Int → gMem → Option (Int × gMem)
  | 0, _, _, _, _ => none
  | fu + 1, a0, x1, x2, M => if (0 : Int) ≤ 1 ∧ (1 : Int) < 1190 then if M (a0 + 1) (1 : Int).toNat ≤ x2 then (some (x1, M)) else ((fX9_stuckBy g a0 x2 M).bind fun x_5 => if x_5 ≤ 0 then (fX9_stuck_35 g (fX9_stuck_9 g fu) a0 x2 x1 0 M) else (fX9_stuck_35 g (fX9_stuck_9 g fu) a0 x2 x1 (gshl 1 x2) M)) else none
set_option maxHeartbeats 4000000 in
set_option maxRecDepth 100000 in
theorem wX9_stuck_9 {w : gW} {n : Nat} {Rm : Nat → Nat → Nat} {g : Nat → Nat} (hLC : gLC g n Rm) {p : Program} {l : Launch} {e : Env} {s : State} {m : MethodId} {args : Array Value} {below : List Frame} {meth : Method} {c : Code} (hM : gMC w p l s m args meth c cX9_stuck 3 RX9 (some .int))  : ∀ (fu : Nat), ∀ (a0 : Nat) (x1 : Int) (x2 : Int) (M : gMem) (r : (Int × gMem)) (hg0 : g a0 = 9) (hr1 : gRI x1) (hr2 : gRI x2) (hf : fX9_stuck_9 g fu a0 x1 x2 M = some r) (H : Heap) (locs : List Loc) (ls : Array Slot) (hH : gH w n Rm M s H locs) (hl : lv_has ls 3 [(0, .ref (w.1 + a0)), (1, .int (gi x1)), (2, .int (gi x2))]), W p l e { frames := 6, cells := 0, slots := 0, locals := 177 } s m args below meth c H locs 0 0 (gQ w n Rm below args s 0 0 (.inr (some (.int (gi r.1)))) r.2 (gRI r.1)) (F0 m 9 ls []) := by
  intro fu
  induction fu with
  | zero =>
    intro a0 x1 x2 M r hg0 hr1 hr2 hf H locs ls hH hl
    exact absurd hf (by simp [fX9_stuck_9])
  | succ fu ih =>
    intro a0 x1 x2 M r hg0 hr1 hr2 hf H locs ls hH hl
    unfold fX9_stuck_9 at hf
    refine lv_iload_n hM.fx.1 hM.fx.2.1 dX9_stuck_9 rfl (lv_at hl 2 rfl) ?_
    refine lv_aload_n hM.fx.1 hM.fx.2.1 dX9_stuck_10 rfl (lv_at hl 0 rfl) ?_
    refine r_getR hM.fx hM.kf hH hLC fl_X9_7 hg0 gch_9_0 dX9_stuck_11 ?_
    refine lv_iconst (v := gi (1)) hM.fx.1 hM.fx.2.1 dX9_stuck_14 rfl ?_
    obtain ⟨g_1, hf⟩ := gif hf
    refine r_iald hM.fx hM.kf hH (hLC.in (hLC.ch hg0 (by decide) gch_9_0) (by decide)) (⟨by decide, by decide⟩ : gAr 19056 0) (gcR (k := 1) (by decide)) g_1 dX9_stuck_15 ?_
    have hr_2 := hH.2.2.i (k := (1 : Int).toNat) (hLC.in (hLC.ch hg0 (by decide) gch_9_0) (by decide)).2.2 (glg_a (⟨by decide, by decide⟩ : gAr 19056 0))
    refine r_icmp_ge (tgt := 43) hM.fx hr2 hr_2 dX9_stuck_16 (by decide) (fun h_3 => ?_) (fun h_3 => ?_)
    · have hf := gpos h_3 hf
      refine lv_iload_n hM.fx.1 hM.fx.2.1 dX9_stuck_43 rfl (lv_at hl 1 rfl) ?_
      obtain rfl := Option.some.inj hf
      exact r_iret hM hH hr1 ⟨(Nat.le_of_ble_eq_true rfl), (Nat.le_of_ble_eq_true rfl)⟩ dX9_stuck_44
    · have hf := gneg' h_3 hf
      refine lv_iload_n hM.fx.1 hM.fx.2.1 dX9_stuck_19 rfl (lv_at hl 1 rfl) ?_
      refine lv_aload_n hM.fx.1 hM.fx.2.1 dX9_stuck_20 rfl (lv_at hl 0 rfl) ?_
      refine lv_iload_n hM.fx.1 hM.fx.2.1 dX9_stuck_21 rfl (lv_at hl 2 rfl) ?_
      obtain ⟨x_5, ex_5, hf⟩ := gbd hf
      refine r_go1 hH rfl (r_runV (As := [.int (gi x2)]) hM hH cv_X9_261 (mX9_stuckBy hLC hM.ns hg0 hr2 ex_5) (hLC.in hg0 (by decide)) (by decide) rfl rfl rfl hl.1 rfl (Nat.le_of_ble_eq_true rfl) ⟨(Nat.le_of_ble_eq_true rfl), (Nat.le_of_ble_eq_true rfl)⟩ ⟨(Nat.le_of_ble_eq_true rfl), (Nat.le_of_ble_eq_true rfl)⟩ dX9_stuck_22) (fun hp_4 H locs hH => ?_)
      refine r_if_le (tgt := 34) hM.fx hp_4 dX9_stuck_25 (by decide) (fun h_6 => ?_) (fun h_6 => ?_)
      · have hf := gpos h_6 hf
        refine lv_iconst (v := gi (0)) hM.fx.1 hM.fx.2.1 dX9_stuck_34 rfl ?_
        exact wX9_stuck_35 hLC hM (fX9_stuck_9 g fu) ih  _ _ _ _ _ _ hg0 hr2 hr1 (gcR (k := 0) (by decide)) hf _ _ _ hH (lv_sub hl [0, 2] rfl)
      · have hf := gneg' h_6 hf
        refine lv_iconst (v := gi (1)) hM.fx.1 hM.fx.2.1 dX9_stuck_28 rfl ?_
        refine lv_iload_n hM.fx.1 hM.fx.2.1 dX9_stuck_29 rfl (lv_at hl 2 rfl) ?_
        refine r_ishl hM.fx dX9_stuck_30 ?_
        refine lv_goto (tgt := 35) hM.fx.1 hM.fx.2.1 dX9_stuck_31 (by decide) ?_
        exact wX9_stuck_35 hLC hM (fX9_stuck_9 g fu) ih  _ _ _ _ _ _ hg0 hr2 hr1 (gi_r _) hf _ _ _ hH (lv_sub hl [0, 2] rfl)
def fX9_stuck (g : Nat → Nat) (a0 : Nat) (M : gMem) : Option (Int × gMem) :=
  gst (gup M a0 7 0) fun M_1 => fX9_stuck_9 g gF a0 0 0 M_1
set_option maxHeartbeats 4000000 in
set_option maxRecDepth 100000 in
theorem mX9_stuck {w : gW} {n : Nat} {Rm : Nat → Nat → Nat} {g : Nat → Nat} (hLC : gLC g n Rm) {l : Launch} (hl9 : l.stackTraces = false) {a0 : Nat} {M : gMem} {r : (Int × gMem)} (hg0 : g a0 = 9) (hf : fX9_stuck g a0 M = some r) : gMT w n Rm l yX9_stuck cX9_stuck 3 (some .int) 6 177 0 0 [.ref (w.1 + a0)] M (.inr (some (.int (gi r.1)))) r.2 (gRI r.1) := by
  unfold fX9_stuck at hf
  refine gMT.of hl9 (by decide +kernel) ((Nat.le_of_ble_eq_true rfl)) ?_
  intro p e s m below meth c hM hH ls hl
  have hM : gMC w p l s m ([.ref (w.1 + a0)] : List Value).toArray meth c cX9_stuck 3 RX9 (some .int) := hM
  have hl : lv_has ls 3 [(0, .ref (w.1 + a0))] := hl
  refine lv_aload_n hM.fx.1 hM.fx.2.1 dX9_stuck_0 rfl (lv_at hl 0 rfl) ?_
  refine lv_iconst (v := gi (0)) hM.fx.1 hM.fx.2.1 dX9_stuck_1 rfl ?_
  refine r_putI hM.fx hM.kf hH fp_X9_46 (hLC.in hg0 (by decide)) (gcR (k := 0) (by decide)) dX9_stuck_2 (fun H locs hH => ?_)
  obtain ⟨M_1, eM_1, hf⟩ := gst_s hf
  rw [← eM_1] at hH
  refine lv_iconst (v := gi (0)) hM.fx.1 hM.fx.2.1 dX9_stuck_5 rfl ?_
  refine lv_istore_n (lv' := [(1, .int (gi 0)), (0, .ref (w.1 + a0))]) hM.fx.1 hM.fx.2.1 dX9_stuck_6 rfl hl (by decide) rfl (fun ls hl => ?_)
  refine lv_iconst (v := gi (0)) hM.fx.1 hM.fx.2.1 dX9_stuck_7 rfl ?_
  refine lv_istore_n (lv' := [(2, .int (gi 0)), (1, .int (gi 0)), (0, .ref (w.1 + a0))]) hM.fx.1 hM.fx.2.1 dX9_stuck_8 rfl hl (by decide) rfl (fun ls hl => ?_)
  exact wX9_stuck_9 hLC hM  gF _ _ _ _ _ hg0 (gcR (k := 0) (by decide)) (gcR (k := 0) (by decide)) hf _ _ _ hH (lv_sub hl [2, 1, 0] rfl)
