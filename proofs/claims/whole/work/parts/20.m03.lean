def fX5_readStacks_2 (g : Nat → Nat)  : Nat → Nat → Int → gMem → Option (Int × gMem)
  | 0, _, _, _ => none
  | fu + 1, a0, x1, M => if 600 ≤ x1 then (some (1, M)) else ((fX5_isWord g a0 18 M).bind fun x_3 => if x_3 = 0 then (some (1, M)) else (if M (a0 + 2) 6 < 12 then ((fX5_next g a0 M).bind fun M_8 => (fX5_takeNumber g a0 1 16 M_8).bind fun q_10 => if q_10.1 = 0 then (some (0, q_10.2)) else ((fX0_addPile g (a0 + 2) (q_10.2 a0 10) q_10.2).bind fun q_14 => if q_14.1 = 0 then ((fX5_fails g a0 ((-6)) (q_14.2 a0 6) q_14.2).bind fun q_28 => some (q_28.1, q_28.2)) else ((fX5_readWhere g a0 q_14.2).bind fun q_17 => if q_17.1 = 0 then (some (0, q_17.2)) else ((fX5_readNumbers g a0 q_14.1 q_17.2).bind fun q_20 => if q_20.1 = 0 then (some (0, q_20.2)) else ((fX5_takeSign g a0 59 q_20.2).bind fun q_23 => if q_23.1 = 0 then (some (0, q_23.2)) else (gst (gwi (x1 + 1)) fun x_25 => fX5_readStacks_2 g fu a0 x_25 q_23.2)))))) else ((fX5_fails g a0 ((-6)) (M a0 6) M).bind fun q_31 => some (q_31.1, q_31.2))))
set_option maxHeartbeats 4000000 in
set_option maxRecDepth 100000 in
theorem wX5_readStacks_2 {w : gW} {n : Nat} {Rm : Nat → Nat → Nat} {g : Nat → Nat} (hLC : gLC g n Rm) {p : Program} {l : Launch} {e : Env} {s : State} {m : MethodId} {args : Array Value} {below : List Frame} {meth : Method} {c : Code} (hM : gMC w p l s m args meth c cX5_readStacks 3 RX5 (some .boolean))  : ∀ (fu : Nat), ∀ (a0 : Nat) (x1 : Int) (M : gMem) (r : (Int × gMem)) (hg0 : g a0 = 6) (hr1 : gRI x1) (hf : fX5_readStacks_2 g fu a0 x1 M = some r) (H : Heap) (locs : List Loc) (ls : Array Slot) (hH : gH w n Rm M s H locs) (hl : lv_has ls 3 [(0, .ref (w.1 + a0)), (1, .int (gi x1))]), W p l e { frames := 12, cells := 0, slots := 0, locals := 337 } s m args below meth c H locs 0 0 (gQ w n Rm below args s 0 0 (.inr (some (.int (gi r.1)))) r.2 (r.1 = 0 ∨ r.1 = 1)) (F0 m 2 ls []) := by
  intro fu
  induction fu with
  | zero =>
    intro a0 x1 M r hg0 hr1 hf H locs ls hH hl
    exact absurd hf (by simp [fX5_readStacks_2])
  | succ fu ih =>
    intro a0 x1 M r hg0 hr1 hf H locs ls hH hl
    unfold fX5_readStacks_2 at hf
    refine lv_iload_n hM.fx.1 hM.fx.2.1 dX5_readStacks_2 rfl (lv_at hl 1 rfl) ?_
    refine lv_sipush (v := gi (600)) hM.fx.1 hM.fx.2.1 dX5_readStacks_3 (by decide) ?_
    refine r_icmp_ge (tgt := 116) hM.fx hr1 (gcR (k := 600) (by decide)) dX5_readStacks_6 (by decide) (fun h_1 => ?_) (fun h_1 => ?_)
    · have hf := gpos h_1 hf
      refine lv_iconst (v := gi (1)) hM.fx.1 hM.fx.2.1 dX5_readStacks_116 rfl ?_
      obtain rfl := Option.some.inj hf
      exact r_zret hM hH (Or.inr rfl) (Or.inr rfl) ⟨(Nat.le_of_ble_eq_true rfl), (Nat.le_of_ble_eq_true rfl)⟩ dX5_readStacks_117
    · have hf := gneg' h_1 hf
      refine lv_aload_n hM.fx.1 hM.fx.2.1 dX5_readStacks_9 rfl (lv_at hl 0 rfl) ?_
      refine r_ldcS (tx := "stack") hM.fx hM.kf 18 rfl dX5_readStacks_10 ?_
      obtain ⟨x_3, ex_3, hf⟩ := gbd hf
      refine r_go1 hH rfl (r_runV (As := [gsR w 18]) hM hH cv_X5_76 (mX5_isWord hLC hM.ns hg0 (by decide : gtx 18 ≠ []) ex_3) (hLC.in hg0 (by decide)) (by decide) rfl rfl rfl hl.1 rfl (Nat.le_of_ble_eq_true rfl) ⟨(Nat.le_of_ble_eq_true rfl), (Nat.le_of_ble_eq_true rfl)⟩ ⟨(Nat.le_of_ble_eq_true rfl), (Nat.le_of_ble_eq_true rfl)⟩ dX5_readStacks_12) (fun hp_2 H locs hH => ?_)
      refine r_if_eq (tgt := 116) hM.fx (gz_r hp_2) dX5_readStacks_15 (by decide) (fun h_4 => ?_) (fun h_4 => ?_)
      · have hf := gpos h_4 hf
        refine lv_iconst (v := gi (1)) hM.fx.1 hM.fx.2.1 dX5_readStacks_116 rfl ?_
        obtain rfl := Option.some.inj hf
        exact r_zret hM hH (Or.inr rfl) (Or.inr rfl) ⟨(Nat.le_of_ble_eq_true rfl), (Nat.le_of_ble_eq_true rfl)⟩ dX5_readStacks_117
      · have hf := gneg' h_4 hf
        refine lv_aload_n hM.fx.1 hM.fx.2.1 dX5_readStacks_18 rfl (lv_at hl 0 rfl) ?_
        refine r_getR hM.fx hM.kf hH hLC fl_X5_18 hg0 gch_6_1 dX5_readStacks_19 ?_
        refine r_getI hM.fx hM.kf hH fl_X5_149 (hLC.in (hLC.ch hg0 (by decide) gch_6_1) (by decide)) dX5_readStacks_22 ?_
        have hr_5 := hH.2.2.i (hLC.in (hLC.ch hg0 (by decide) gch_6_1) (by decide)).2.2 (by decide : glg 1 6 = false)
        refine lv_bipush (v := gi (12)) hM.fx.1 hM.fx.2.1 dX5_readStacks_25 (by decide) ?_
        refine r_icmp_lt (tgt := 41) hM.fx hr_5 (gcR (k := 12) (by decide)) dX5_readStacks_27 (by decide) (fun h_6 => ?_) (fun h_6 => ?_)
        · have hf := gpos h_6 hf
          refine lv_aload_n hM.fx.1 hM.fx.2.1 dX5_readStacks_41 rfl (lv_at hl 0 rfl) ?_
          obtain ⟨M_8, eM_8, hf⟩ := gbd hf
          refine r_go0 hH rfl (r_runV (As := []) hM hH cv_X5_35 (mX5_next hLC hM.ns hg0 eM_8) (hLC.in hg0 (by decide)) (by decide) rfl rfl rfl hl.1 rfl (Nat.le_of_ble_eq_true rfl) ⟨(Nat.le_of_ble_eq_true rfl), (Nat.le_of_ble_eq_true rfl)⟩ ⟨(Nat.le_of_ble_eq_true rfl), (Nat.le_of_ble_eq_true rfl)⟩ dX5_readStacks_42) (fun hp_7 H locs hH => ?_)
          refine lv_aload_n hM.fx.1 hM.fx.2.1 dX5_readStacks_45 rfl (lv_at hl 0 rfl) ?_
          refine lv_iconst (v := gi (1)) hM.fx.1 hM.fx.2.1 dX5_readStacks_46 rfl ?_
          refine lv_bipush (v := gi (16)) hM.fx.1 hM.fx.2.1 dX5_readStacks_47 (by decide) ?_
          obtain ⟨q_10, eq_10, hf⟩ := gbd hf
          refine r_go1 hH rfl (r_runV (As := [.int (gi 1), .int (gi 16)]) hM hH cv_X5_43 (mX5_takeNumber hLC hM.ns hg0 (gcR (k := 1) (by decide)) (gcR (k := 16) (by decide)) eq_10) (hLC.in hg0 (by decide)) (by decide) rfl rfl rfl hl.1 rfl (Nat.le_of_ble_eq_true rfl) ⟨(Nat.le_of_ble_eq_true rfl), (Nat.le_of_ble_eq_true rfl)⟩ ⟨(Nat.le_of_ble_eq_true rfl), (Nat.le_of_ble_eq_true rfl)⟩ dX5_readStacks_49) (fun hp_9 H locs hH => ?_)
          refine r_if_ne (tgt := 57) hM.fx (gz_r hp_9) dX5_readStacks_52 (by decide) (fun h_11 => ?_) (fun h_11 => ?_)
          · have hf := gneg' h_11 hf
            refine lv_aload_n hM.fx.1 hM.fx.2.1 dX5_readStacks_57 rfl (lv_at hl 0 rfl) ?_
            refine r_getR hM.fx hM.kf hH hLC fl_X5_18 hg0 gch_6_1 dX5_readStacks_58 ?_
            refine lv_aload_n hM.fx.1 hM.fx.2.1 dX5_readStacks_61 rfl (lv_at hl 0 rfl) ?_
            refine r_getI hM.fx hM.kf hH fl_X5_47 (hLC.in hg0 (by decide)) dX5_readStacks_62 ?_
            have hr_12 := hH.2.2.i (hLC.in hg0 (by decide)).2.2 (by decide : glg 6 10 = false)
            obtain ⟨q_14, eq_14, hf⟩ := gbd hf
            refine r_go1 hH rfl (r_runV (As := [.int (gi (q_10.2 a0 10))]) hM hH cv_X5_152 (mX0_addPile hLC hM.ns (hLC.ch hg0 (by decide) gch_6_1) hr_12 eq_14) (hLC.in (hLC.ch hg0 (by decide) gch_6_1) (by decide)) (by decide) rfl rfl rfl hl.1 rfl (Nat.le_of_ble_eq_true rfl) ⟨(Nat.le_of_ble_eq_true rfl), (Nat.le_of_ble_eq_true rfl)⟩ ⟨(Nat.le_of_ble_eq_true rfl), (Nat.le_of_ble_eq_true rfl)⟩ dX5_readStacks_65) (fun hp_13 H locs hH => ?_)
            refine r_astore_nV (lv' := [(2, gvR w q_14.1), (0, .ref (w.1 + a0)), (1, .int (gi x1))]) hM.fx dX5_readStacks_68 rfl hl (by decide) rfl (fun ls hl => ?_)
            refine r_aload_nV hM.fx dX5_readStacks_69 rfl (lv_at hl 0 rfl) ?_
            refine r_ifnonnull (tgt := 84) hM.fx dX5_readStacks_70 (by decide) (fun h_15 => ?_) (fun h_15 => ?_)
            · have hf := gneg' h_15 hf
              rw [gvR_nn h_15] at hl
              refine lv_aload_n hM.fx.1 hM.fx.2.1 dX5_readStacks_84 rfl (lv_at hl 1 rfl) ?_
              obtain ⟨q_17, eq_17, hf⟩ := gbd hf
              refine r_go1 hH rfl (r_runV (As := []) hM hH cv_X5_156 (mX5_readWhere hLC hM.ns hg0 eq_17) (hLC.in hg0 (by decide)) (by decide) rfl rfl rfl hl.1 rfl (Nat.le_of_ble_eq_true rfl) ⟨(Nat.le_of_ble_eq_true rfl), (Nat.le_of_ble_eq_true rfl)⟩ ⟨(Nat.le_of_ble_eq_true rfl), (Nat.le_of_ble_eq_true rfl)⟩ dX5_readStacks_85) (fun hp_16 H locs hH => ?_)
              refine r_if_eq (tgt := 108) hM.fx (gz_r hp_16) dX5_readStacks_88 (by decide) (fun h_18 => ?_) (fun h_18 => ?_)
              · have hf := gpos h_18 hf
                refine lv_iconst (v := gi (0)) hM.fx.1 hM.fx.2.1 dX5_readStacks_108 rfl ?_
                obtain rfl := Option.some.inj hf
                exact r_zret hM hH (Or.inl rfl) (Or.inl rfl) ⟨(Nat.le_of_ble_eq_true rfl), (Nat.le_of_ble_eq_true rfl)⟩ dX5_readStacks_109
              · have hf := gneg' h_18 hf
                refine lv_aload_n hM.fx.1 hM.fx.2.1 dX5_readStacks_91 rfl (lv_at hl 1 rfl) ?_
                refine lv_aload_n hM.fx.1 hM.fx.2.1 dX5_readStacks_92 rfl (lv_at hl 0 rfl) ?_
                obtain ⟨q_20, eq_20, hf⟩ := gbd hf
                refine r_go1 hH rfl (r_runV (As := [.ref (w.1 + q_14.1)]) hM hH cv_X5_159 (mX5_readNumbers hLC hM.ns hg0 (hp_13 h_15) eq_20) (hLC.in hg0 (by decide)) (by decide) rfl rfl rfl hl.1 rfl (Nat.le_of_ble_eq_true rfl) ⟨(Nat.le_of_ble_eq_true rfl), (Nat.le_of_ble_eq_true rfl)⟩ ⟨(Nat.le_of_ble_eq_true rfl), (Nat.le_of_ble_eq_true rfl)⟩ dX5_readStacks_93) (fun hp_19 H locs hH => ?_)
                refine r_if_eq (tgt := 108) hM.fx (gz_r hp_19) dX5_readStacks_96 (by decide) (fun h_21 => ?_) (fun h_21 => ?_)
                · have hf := gpos h_21 hf
                  refine lv_iconst (v := gi (0)) hM.fx.1 hM.fx.2.1 dX5_readStacks_108 rfl ?_
                  obtain rfl := Option.some.inj hf
                  exact r_zret hM hH (Or.inl rfl) (Or.inl rfl) ⟨(Nat.le_of_ble_eq_true rfl), (Nat.le_of_ble_eq_true rfl)⟩ dX5_readStacks_109
                · have hf := gneg' h_21 hf
                  refine lv_aload_n hM.fx.1 hM.fx.2.1 dX5_readStacks_99 rfl (lv_at hl 1 rfl) ?_
                  refine lv_bipush (v := gi (59)) hM.fx.1 hM.fx.2.1 dX5_readStacks_100 (by decide) ?_
                  obtain ⟨q_23, eq_23, hf⟩ := gbd hf
                  refine r_go1 hH rfl (r_runV (As := [.int (gi 59)]) hM hH cv_X5_54 (mX5_takeSign hLC hM.ns hg0 (gcR (k := 59) (by decide)) eq_23) (hLC.in hg0 (by decide)) (by decide) rfl rfl rfl hl.1 rfl (Nat.le_of_ble_eq_true rfl) ⟨(Nat.le_of_ble_eq_true rfl), (Nat.le_of_ble_eq_true rfl)⟩ ⟨(Nat.le_of_ble_eq_true rfl), (Nat.le_of_ble_eq_true rfl)⟩ dX5_readStacks_102) (fun hp_22 H locs hH => ?_)
                  refine r_if_ne (tgt := 110) hM.fx (gz_r hp_22) dX5_readStacks_105 (by decide) (fun h_24 => ?_) (fun h_24 => ?_)
                  · have hf := gneg' h_24 hf
                    obtain ⟨x_25, ex_25, hf⟩ := gst_s hf
                    have hx_25 : gRI x_25 := by rw [ex_25]; exact gwi_r _
                    refine r_iinc (lv' := [(1, .int (gi x_25)), (2, .ref (w.1 + q_14.1)), (0, .ref (w.1 + a0))]) hM.fx dX5_readStacks_110 hl (k := 2) rfl (by decide) (by rw [ex_25]; rfl) (fun ls hl => ?_)
                    refine lv_goto (tgt := 2) hM.fx.1 hM.fx.2.1 dX5_readStacks_113 (by decide) ?_
                    exact ih _ _ _ _ hg0 hx_25 hf _ _ _ hH (lv_sub hl [2, 0] rfl)
                  · have hf := gpos h_24 hf
                    refine lv_iconst (v := gi (0)) hM.fx.1 hM.fx.2.1 dX5_readStacks_108 rfl ?_
                    obtain rfl := Option.some.inj hf
                    exact r_zret hM hH (Or.inl rfl) (Or.inl rfl) ⟨(Nat.le_of_ble_eq_true rfl), (Nat.le_of_ble_eq_true rfl)⟩ dX5_readStacks_109
            · have hf := gpos h_15 hf
              refine lv_aload_n hM.fx.1 hM.fx.2.1 dX5_readStacks_73 rfl (lv_at hl 1 rfl) ?_
              refine lv_bipush (v := gi (-6)) hM.fx.1 hM.fx.2.1 dX5_readStacks_74 (by decide) ?_
              refine lv_aload_n hM.fx.1 hM.fx.2.1 dX5_readStacks_76 rfl (lv_at hl 1 rfl) ?_
              refine r_getI hM.fx hM.kf hH fl_X5_68 (hLC.in hg0 (by decide)) dX5_readStacks_77 ?_
              have hr_26 := hH.2.2.i (hLC.in hg0 (by decide)).2.2 (by decide : glg 6 6 = false)
              obtain ⟨q_28, eq_28, hf⟩ := gbd hf
              refine r_go1 hH rfl (r_runV (As := [.int (gi ((-6))), .int (gi (q_14.2 a0 6))]) hM hH cv_X5_71 (mX5_fails hLC hM.ns hg0 (gcR (k := -6) (by decide)) hr_26 eq_28) (hLC.in hg0 (by decide)) (by decide) rfl rfl rfl hl.1 rfl (Nat.le_of_ble_eq_true rfl) ⟨(Nat.le_of_ble_eq_true rfl), (Nat.le_of_ble_eq_true rfl)⟩ ⟨(Nat.le_of_ble_eq_true rfl), (Nat.le_of_ble_eq_true rfl)⟩ dX5_readStacks_80) (fun hp_27 H locs hH => ?_)
              obtain rfl := Option.some.inj hf
              exact r_zret hM hH hp_27 hp_27 ⟨(Nat.le_of_ble_eq_true rfl), (Nat.le_of_ble_eq_true rfl)⟩ dX5_readStacks_83
          · have hf := gpos h_11 hf
            refine lv_iconst (v := gi (0)) hM.fx.1 hM.fx.2.1 dX5_readStacks_55 rfl ?_
            obtain rfl := Option.some.inj hf
            exact r_zret hM hH (Or.inl rfl) (Or.inl rfl) ⟨(Nat.le_of_ble_eq_true rfl), (Nat.le_of_ble_eq_true rfl)⟩ dX5_readStacks_56
        · have hf := gneg' h_6 hf
          refine lv_aload_n hM.fx.1 hM.fx.2.1 dX5_readStacks_30 rfl (lv_at hl 0 rfl) ?_
          refine lv_bipush (v := gi (-6)) hM.fx.1 hM.fx.2.1 dX5_readStacks_31 (by decide) ?_
          refine lv_aload_n hM.fx.1 hM.fx.2.1 dX5_readStacks_33 rfl (lv_at hl 0 rfl) ?_
          refine r_getI hM.fx hM.kf hH fl_X5_68 (hLC.in hg0 (by decide)) dX5_readStacks_34 ?_
          have hr_29 := hH.2.2.i (hLC.in hg0 (by decide)).2.2 (by decide : glg 6 6 = false)
          obtain ⟨q_31, eq_31, hf⟩ := gbd hf
          refine r_go1 hH rfl (r_runV (As := [.int (gi ((-6))), .int (gi (M a0 6))]) hM hH cv_X5_71 (mX5_fails hLC hM.ns hg0 (gcR (k := -6) (by decide)) hr_29 eq_31) (hLC.in hg0 (by decide)) (by decide) rfl rfl rfl hl.1 rfl (Nat.le_of_ble_eq_true rfl) ⟨(Nat.le_of_ble_eq_true rfl), (Nat.le_of_ble_eq_true rfl)⟩ ⟨(Nat.le_of_ble_eq_true rfl), (Nat.le_of_ble_eq_true rfl)⟩ dX5_readStacks_37) (fun hp_30 H locs hH => ?_)
          obtain rfl := Option.some.inj hf
          exact r_zret hM hH hp_30 hp_30 ⟨(Nat.le_of_ble_eq_true rfl), (Nat.le_of_ble_eq_true rfl)⟩ dX5_readStacks_40
def fX5_readStacks (g : Nat → Nat) (a0 : Nat) (M : gMem) : Option (Int × gMem) :=
  fX5_readStacks_2 g gF a0 0 M
set_option maxHeartbeats 4000000 in
set_option maxRecDepth 100000 in
theorem mX5_readStacks {w : gW} {n : Nat} {Rm : Nat → Nat → Nat} {g : Nat → Nat} (hLC : gLC g n Rm) {l : Launch} (hl9 : l.stackTraces = false) {a0 : Nat} {M : gMem} {r : (Int × gMem)} (hg0 : g a0 = 6) (hf : fX5_readStacks g a0 M = some r) : gMT w n Rm l yX5_readStacks cX5_readStacks 3 (some .boolean) 12 337 0 0 [.ref (w.1 + a0)] M (.inr (some (.int (gi r.1)))) r.2 (r.1 = 0 ∨ r.1 = 1) := by
  unfold fX5_readStacks at hf
  refine gMT.of hl9 (by decide +kernel) ((Nat.le_of_ble_eq_true rfl)) ?_
  intro p e s m below meth c hM hH ls hl
  have hM : gMC w p l s m ([.ref (w.1 + a0)] : List Value).toArray meth c cX5_readStacks 3 RX5 (some .boolean) := hM
  have hl : lv_has ls 3 [(0, .ref (w.1 + a0))] := hl
  refine lv_iconst (v := gi (0)) hM.fx.1 hM.fx.2.1 dX5_readStacks_0 rfl ?_
  refine lv_istore_n (lv' := [(1, .int (gi 0)), (0, .ref (w.1 + a0))]) hM.fx.1 hM.fx.2.1 dX5_readStacks_1 rfl hl (by decide) rfl (fun ls hl => ?_)
  exact wX5_readStacks_2 hLC hM  gF _ _ _ _ hg0 (gcR (k := 0) (by decide)) hf _ _ _ hH (lv_sub hl [1, 0] rfl)
def fX5_readText (g : Nat → Nat) (a0 : Nat) (M : gMem) : Option (Int × gMem) :=
  gst (gup M a0 3 0) fun M_1 => gst (gup M_1 a0 4 ((-1))) fun M_2 => gst (gup M_2 a0 5 0) fun M_3 => (fX5_next g a0 M_3).bind fun M_5 => (fX5_takeWord g a0 0 M_5).bind fun q_7 => if q_7.1 = 0 then (some (0, q_7.2)) else ((fX5_takeNumber g a0 1 4 q_7.2).bind fun q_10 => if q_10.1 = 0 then (some (0, q_10.2)) else ((fX0_begin g (a0 + 2) (q_10.2 a0 10) q_10.2).bind fun M_14 => (fX5_takeSign g a0 59 M_14).bind fun q_16 => if q_16.1 = 0 then (some (0, q_16.2)) else ((fX5_readProcesses g a0 q_16.2).bind fun q_19 => if q_19.1 = 0 then (some (0, q_19.2)) else ((fX5_readStacks g a0 q_19.2).bind fun q_22 => if q_22.1 = 0 then (some (0, q_22.2)) else (if q_22.2 a0 7 = (-1) then (some (1, q_22.2)) else ((fX5_fails g a0 ((-2)) (q_22.2 a0 6) q_22.2).bind fun q_28 => if q_28.1 = 0 then (some (0, q_28.2)) else (some (1, q_28.2))))))))
set_option maxHeartbeats 4000000 in
set_option maxRecDepth 100000 in
theorem mX5_readText {w : gW} {n : Nat} {Rm : Nat → Nat → Nat} {g : Nat → Nat} (hLC : gLC g n Rm) {l : Launch} (hl9 : l.stackTraces = false) {a0 : Nat} {M : gMem} {r : (Int × gMem)} (hg0 : g a0 = 6) (hf : fX5_readText g a0 M = some r) : gMT w n Rm l yX5_readText cX5_readText 1 (some .boolean) 13 360 0 0 [.ref (w.1 + a0)] M (.inr (some (.int (gi r.1)))) r.2 (r.1 = 0 ∨ r.1 = 1) := by
  unfold fX5_readText at hf
  refine gMT.of hl9 (by decide +kernel) ((Nat.le_of_ble_eq_true rfl)) ?_
  intro p e s m below meth c hM hH ls hl
  have hM : gMC w p l s m ([.ref (w.1 + a0)] : List Value).toArray meth c cX5_readText 1 RX5 (some .boolean) := hM
  have hl : lv_has ls 1 [(0, .ref (w.1 + a0))] := hl
  refine lv_aload_n hM.fx.1 hM.fx.2.1 dX5_readText_0 rfl (lv_at hl 0 rfl) ?_
  refine lv_iconst (v := gi (0)) hM.fx.1 hM.fx.2.1 dX5_readText_1 rfl ?_
  refine r_putI hM.fx hM.kf hH fp_X5_29 (hLC.in hg0 (by decide)) (gcR (k := 0) (by decide)) dX5_readText_2 (fun H locs hH => ?_)
  obtain ⟨M_1, eM_1, hf⟩ := gst_s hf
  rw [← eM_1] at hH
  refine lv_aload_n hM.fx.1 hM.fx.2.1 dX5_readText_5 rfl (lv_at hl 0 rfl) ?_
  refine lv_iconst (v := gi (-1)) hM.fx.1 hM.fx.2.1 dX5_readText_6 rfl ?_
  refine r_putI hM.fx hM.kf hH fp_X5_22 (hLC.in hg0 (by decide)) (gcR (k := -1) (by decide)) dX5_readText_7 (fun H locs hH => ?_)
  obtain ⟨M_2, eM_2, hf⟩ := gst_s hf
  rw [← eM_2] at hH
  refine lv_aload_n hM.fx.1 hM.fx.2.1 dX5_readText_10 rfl (lv_at hl 0 rfl) ?_
  refine lv_iconst (v := gi (0)) hM.fx.1 hM.fx.2.1 dX5_readText_11 rfl ?_
  refine r_putI hM.fx hM.kf hH fp_X5_32 (hLC.in hg0 (by decide)) (gcR (k := 0) (by decide)) dX5_readText_12 (fun H locs hH => ?_)
  obtain ⟨M_3, eM_3, hf⟩ := gst_s hf
  rw [← eM_3] at hH
  refine lv_aload_n hM.fx.1 hM.fx.2.1 dX5_readText_15 rfl (lv_at hl 0 rfl) ?_
  obtain ⟨M_5, eM_5, hf⟩ := gbd hf
  refine r_go0 hH rfl (r_runV (As := []) hM hH cv_X5_35 (mX5_next hLC hM.ns hg0 eM_5) (hLC.in hg0 (by decide)) (by decide) rfl rfl rfl hl.1 rfl (Nat.le_of_ble_eq_true rfl) ⟨(Nat.le_of_ble_eq_true rfl), (Nat.le_of_ble_eq_true rfl)⟩ ⟨(Nat.le_of_ble_eq_true rfl), (Nat.le_of_ble_eq_true rfl)⟩ dX5_readText_16) (fun hp_4 H locs hH => ?_)
  refine lv_aload_n hM.fx.1 hM.fx.2.1 dX5_readText_19 rfl (lv_at hl 0 rfl) ?_
  refine r_ldcS (tx := "desk") hM.fx hM.kf 0 rfl dX5_readText_20 ?_
  obtain ⟨q_7, eq_7, hf⟩ := gbd hf
  refine r_go1 hH rfl (r_runV (As := [gsR w 0]) hM hH cv_X5_39 (mX5_takeWord hLC hM.ns hg0 (by decide : gtx 0 ≠ []) eq_7) (hLC.in hg0 (by decide)) (by decide) rfl rfl rfl hl.1 rfl (Nat.le_of_ble_eq_true rfl) ⟨(Nat.le_of_ble_eq_true rfl), (Nat.le_of_ble_eq_true rfl)⟩ ⟨(Nat.le_of_ble_eq_true rfl), (Nat.le_of_ble_eq_true rfl)⟩ dX5_readText_22) (fun hp_6 H locs hH => ?_)
  refine r_if_eq (tgt := 37) hM.fx (gz_r hp_6) dX5_readText_25 (by decide) (fun h_8 => ?_) (fun h_8 => ?_)
  · have hf := gpos h_8 hf
    refine lv_iconst (v := gi (0)) hM.fx.1 hM.fx.2.1 dX5_readText_37 rfl ?_
    obtain rfl := Option.some.inj hf
    exact r_zret hM hH (Or.inl rfl) (Or.inl rfl) ⟨(Nat.le_of_ble_eq_true rfl), (Nat.le_of_ble_eq_true rfl)⟩ dX5_readText_38
  · have hf := gneg' h_8 hf
    refine lv_aload_n hM.fx.1 hM.fx.2.1 dX5_readText_28 rfl (lv_at hl 0 rfl) ?_
    refine lv_iconst (v := gi (1)) hM.fx.1 hM.fx.2.1 dX5_readText_29 rfl ?_
    refine lv_iconst (v := gi (4)) hM.fx.1 hM.fx.2.1 dX5_readText_30 rfl ?_
    obtain ⟨q_10, eq_10, hf⟩ := gbd hf
    refine r_go1 hH rfl (r_runV (As := [.int (gi 1), .int (gi 4)]) hM hH cv_X5_43 (mX5_takeNumber hLC hM.ns hg0 (gcR (k := 1) (by decide)) (gcR (k := 4) (by decide)) eq_10) (hLC.in hg0 (by decide)) (by decide) rfl rfl rfl hl.1 rfl (Nat.le_of_ble_eq_true rfl) ⟨(Nat.le_of_ble_eq_true rfl), (Nat.le_of_ble_eq_true rfl)⟩ ⟨(Nat.le_of_ble_eq_true rfl), (Nat.le_of_ble_eq_true rfl)⟩ dX5_readText_31) (fun hp_9 H locs hH => ?_)
    refine r_if_ne (tgt := 39) hM.fx (gz_r hp_9) dX5_readText_34 (by decide) (fun h_11 => ?_) (fun h_11 => ?_)
    · have hf := gneg' h_11 hf
      refine lv_aload_n hM.fx.1 hM.fx.2.1 dX5_readText_39 rfl (lv_at hl 0 rfl) ?_
      refine r_getR hM.fx hM.kf hH hLC fl_X5_18 hg0 gch_6_1 dX5_readText_40 ?_
      refine lv_aload_n hM.fx.1 hM.fx.2.1 dX5_readText_43 rfl (lv_at hl 0 rfl) ?_
      refine r_getI hM.fx hM.kf hH fl_X5_47 (hLC.in hg0 (by decide)) dX5_readText_44 ?_
      have hr_12 := hH.2.2.i (hLC.in hg0 (by decide)).2.2 (by decide : glg 6 10 = false)
      obtain ⟨M_14, eM_14, hf⟩ := gbd hf
      refine r_go0 hH rfl (r_runV (As := [.int (gi (q_10.2 a0 10))]) hM hH cv_X5_50 (mX0_begin hLC hM.ns (hLC.ch hg0 (by decide) gch_6_1) hr_12 eM_14) (hLC.in (hLC.ch hg0 (by decide) gch_6_1) (by decide)) (by decide) rfl rfl rfl hl.1 rfl (Nat.le_of_ble_eq_true rfl) ⟨(Nat.le_of_ble_eq_true rfl), (Nat.le_of_ble_eq_true rfl)⟩ ⟨(Nat.le_of_ble_eq_true rfl), (Nat.le_of_ble_eq_true rfl)⟩ dX5_readText_47) (fun hp_13 H locs hH => ?_)
      refine lv_aload_n hM.fx.1 hM.fx.2.1 dX5_readText_50 rfl (lv_at hl 0 rfl) ?_
      refine lv_bipush (v := gi (59)) hM.fx.1 hM.fx.2.1 dX5_readText_51 (by decide) ?_
      obtain ⟨q_16, eq_16, hf⟩ := gbd hf
      refine r_go1 hH rfl (r_runV (As := [.int (gi 59)]) hM hH cv_X5_54 (mX5_takeSign hLC hM.ns hg0 (gcR (k := 59) (by decide)) eq_16) (hLC.in hg0 (by decide)) (by decide) rfl rfl rfl hl.1 rfl (Nat.le_of_ble_eq_true rfl) ⟨(Nat.le_of_ble_eq_true rfl), (Nat.le_of_ble_eq_true rfl)⟩ ⟨(Nat.le_of_ble_eq_true rfl), (Nat.le_of_ble_eq_true rfl)⟩ dX5_readText_53) (fun hp_15 H locs hH => ?_)
      refine r_if_ne (tgt := 61) hM.fx (gz_r hp_15) dX5_readText_56 (by decide) (fun h_17 => ?_) (fun h_17 => ?_)
      · have hf := gneg' h_17 hf
        refine lv_aload_n hM.fx.1 hM.fx.2.1 dX5_readText_61 rfl (lv_at hl 0 rfl) ?_
        obtain ⟨q_19, eq_19, hf⟩ := gbd hf
        refine r_go1 hH rfl (r_runV (As := []) hM hH cv_X5_58 (mX5_readProcesses hLC hM.ns hg0 eq_19) (hLC.in hg0 (by decide)) (by decide) rfl rfl rfl hl.1 rfl (Nat.le_of_ble_eq_true rfl) ⟨(Nat.le_of_ble_eq_true rfl), (Nat.le_of_ble_eq_true rfl)⟩ ⟨(Nat.le_of_ble_eq_true rfl), (Nat.le_of_ble_eq_true rfl)⟩ dX5_readText_62) (fun hp_18 H locs hH => ?_)
        refine r_if_eq (tgt := 100) hM.fx (gz_r hp_18) dX5_readText_65 (by decide) (fun h_20 => ?_) (fun h_20 => ?_)
        · have hf := gpos h_20 hf
          refine lv_iconst (v := gi (0)) hM.fx.1 hM.fx.2.1 dX5_readText_100 rfl ?_
          obtain rfl := Option.some.inj hf
          exact r_zret hM hH (Or.inl rfl) (Or.inl rfl) ⟨(Nat.le_of_ble_eq_true rfl), (Nat.le_of_ble_eq_true rfl)⟩ dX5_readText_101
        · have hf := gneg' h_20 hf
          refine lv_aload_n hM.fx.1 hM.fx.2.1 dX5_readText_68 rfl (lv_at hl 0 rfl) ?_
          obtain ⟨q_22, eq_22, hf⟩ := gbd hf
          refine r_go1 hH rfl (r_runV (As := []) hM hH cv_X5_62 (mX5_readStacks hLC hM.ns hg0 eq_22) (hLC.in hg0 (by decide)) (by decide) rfl rfl rfl hl.1 rfl (Nat.le_of_ble_eq_true rfl) ⟨(Nat.le_of_ble_eq_true rfl), (Nat.le_of_ble_eq_true rfl)⟩ ⟨(Nat.le_of_ble_eq_true rfl), (Nat.le_of_ble_eq_true rfl)⟩ dX5_readText_69) (fun hp_21 H locs hH => ?_)
          refine r_if_eq (tgt := 100) hM.fx (gz_r hp_21) dX5_readText_72 (by decide) (fun h_23 => ?_) (fun h_23 => ?_)
          · have hf := gpos h_23 hf
            refine lv_iconst (v := gi (0)) hM.fx.1 hM.fx.2.1 dX5_readText_100 rfl ?_
            obtain rfl := Option.some.inj hf
            exact r_zret hM hH (Or.inl rfl) (Or.inl rfl) ⟨(Nat.le_of_ble_eq_true rfl), (Nat.le_of_ble_eq_true rfl)⟩ dX5_readText_101
          · have hf := gneg' h_23 hf
            refine lv_aload_n hM.fx.1 hM.fx.2.1 dX5_readText_75 rfl (lv_at hl 0 rfl) ?_
            refine r_getI hM.fx hM.kf hH fl_X5_65 (hLC.in hg0 (by decide)) dX5_readText_76 ?_
            have hr_24 := hH.2.2.i (hLC.in hg0 (by decide)).2.2 (by decide : glg 6 7 = false)
            refine lv_iconst (v := gi (-1)) hM.fx.1 hM.fx.2.1 dX5_readText_79 rfl ?_
            refine r_icmp_eq (tgt := 96) hM.fx hr_24 (gcR (k := -1) (by decide)) dX5_readText_80 (by decide) (fun h_25 => ?_) (fun h_25 => ?_)
            · have hf := gpos h_25 hf
              refine lv_iconst (v := gi (1)) hM.fx.1 hM.fx.2.1 dX5_readText_96 rfl ?_
              refine lv_goto (tgt := 101) hM.fx.1 hM.fx.2.1 dX5_readText_97 (by decide) ?_
              obtain rfl := Option.some.inj hf
              exact r_zret hM hH (Or.inr rfl) (Or.inr rfl) ⟨(Nat.le_of_ble_eq_true rfl), (Nat.le_of_ble_eq_true rfl)⟩ dX5_readText_101
            · have hf := gneg' h_25 hf
              refine lv_aload_n hM.fx.1 hM.fx.2.1 dX5_readText_83 rfl (lv_at hl 0 rfl) ?_
              refine lv_bipush (v := gi (-2)) hM.fx.1 hM.fx.2.1 dX5_readText_84 (by decide) ?_
              refine lv_aload_n hM.fx.1 hM.fx.2.1 dX5_readText_86 rfl (lv_at hl 0 rfl) ?_
              refine r_getI hM.fx hM.kf hH fl_X5_68 (hLC.in hg0 (by decide)) dX5_readText_87 ?_
              have hr_26 := hH.2.2.i (hLC.in hg0 (by decide)).2.2 (by decide : glg 6 6 = false)
              obtain ⟨q_28, eq_28, hf⟩ := gbd hf
              refine r_go1 hH rfl (r_runV (As := [.int (gi ((-2))), .int (gi (q_22.2 a0 6))]) hM hH cv_X5_71 (mX5_fails hLC hM.ns hg0 (gcR (k := -2) (by decide)) hr_26 eq_28) (hLC.in hg0 (by decide)) (by decide) rfl rfl rfl hl.1 rfl (Nat.le_of_ble_eq_true rfl) ⟨(Nat.le_of_ble_eq_true rfl), (Nat.le_of_ble_eq_true rfl)⟩ ⟨(Nat.le_of_ble_eq_true rfl), (Nat.le_of_ble_eq_true rfl)⟩ dX5_readText_90) (fun hp_27 H locs hH => ?_)
              refine r_if_eq (tgt := 100) hM.fx (gz_r hp_27) dX5_readText_93 (by decide) (fun h_29 => ?_) (fun h_29 => ?_)
              · have hf := gpos h_29 hf
                refine lv_iconst (v := gi (0)) hM.fx.1 hM.fx.2.1 dX5_readText_100 rfl ?_
                obtain rfl := Option.some.inj hf
                exact r_zret hM hH (Or.inl rfl) (Or.inl rfl) ⟨(Nat.le_of_ble_eq_true rfl), (Nat.le_of_ble_eq_true rfl)⟩ dX5_readText_101
              · have hf := gneg' h_29 hf
                refine lv_iconst (v := gi (1)) hM.fx.1 hM.fx.2.1 dX5_readText_96 rfl ?_
                refine lv_goto (tgt := 101) hM.fx.1 hM.fx.2.1 dX5_readText_97 (by decide) ?_
                obtain rfl := Option.some.inj hf
                exact r_zret hM hH (Or.inr rfl) (Or.inr rfl) ⟨(Nat.le_of_ble_eq_true rfl), (Nat.le_of_ble_eq_true rfl)⟩ dX5_readText_101
      · have hf := gpos h_17 hf
        refine lv_iconst (v := gi (0)) hM.fx.1 hM.fx.2.1 dX5_readText_59 rfl ?_
        obtain rfl := Option.some.inj hf
        exact r_zret hM hH (Or.inl rfl) (Or.inl rfl) ⟨(Nat.le_of_ble_eq_true rfl), (Nat.le_of_ble_eq_true rfl)⟩ dX5_readText_60
    · have hf := gpos h_11 hf
      refine lv_iconst (v := gi (0)) hM.fx.1 hM.fx.2.1 dX5_readText_37 rfl ?_
      obtain rfl := Option.some.inj hf
      exact r_zret hM hH (Or.inl rfl) (Or.inl rfl) ⟨(Nat.le_of_ble_eq_true rfl), (Nat.le_of_ble_eq_true rfl)⟩ dX5_readText_38
def fX6_moveFault_16 (g : Nat → Nat)  (a0 : Nat) (x1 : Int) (x2 : Int) (M : gMem) : Option Int :=
  (fX4_mayUse g a0 x2 M).bind fun x_2 => if x_2 = 0 then (some 2) else (if x1 = 9 then (if M a0 10 = (-1) then (some 0) else (some 3)) else (some 0))
set_option maxHeartbeats 4000000 in
set_option maxRecDepth 100000 in
theorem wX6_moveFault_16 {w : gW} {n : Nat} {Rm : Nat → Nat → Nat} {g : Nat → Nat} (hLC : gLC g n Rm) {p : Program} {l : Launch} {e : Env} {s : State} {m : MethodId} {args : Array Value} {below : List Frame} {meth : Method} {c : Code} (hM : gMC w p l s m args meth c cX6_moveFault 3 RX6 (some .int))  : ∀ (a0 : Nat) (x1 : Int) (x2 : Int) (M : gMem) (r : Int) (hg0 : g a0 = 5) (hr1 : gRI x1) (hr2 : gRI x2) (hf : fX6_moveFault_16 g a0 x1 x2 M = some r) (H : Heap) (locs : List Loc) (ls : Array Slot) (hH : gH w n Rm M s H locs) (hl : lv_has ls 3 [(0, .ref (w.1 + a0)), (1, .int (gi x1)), (2, .int (gi x2))]), W p l e { frames := 2, cells := 0, slots := 0, locals := 81 } s m args below meth c H locs 0 0 (gQ w n Rm below args s 0 0 (.inr (some (.int (gi r)))) M (gRI r)) (F0 m 16 ls []) := by
  intro a0 x1 x2 M r hg0 hr1 hr2 hf H locs ls hH hl
  unfold fX6_moveFault_16 at hf
  refine lv_aload_n hM.fx.1 hM.fx.2.1 dX6_moveFault_16 rfl (lv_at hl 0 rfl) ?_
  refine lv_iload_n hM.fx.1 hM.fx.2.1 dX6_moveFault_17 rfl (lv_at hl 2 rfl) ?_
  obtain ⟨x_2, ex_2, hf⟩ := gbd hf
  refine r_go1 hH rfl (r_runV (As := [.int (gi x2)]) hM hH cv_X6_106 (mX4_mayUse hLC hM.ns hg0 hr2 ex_2) (hLC.in hg0 (by decide)) (by decide) rfl rfl rfl hl.1 rfl (Nat.le_of_ble_eq_true rfl) ⟨(Nat.le_of_ble_eq_true rfl), (Nat.le_of_ble_eq_true rfl)⟩ ⟨(Nat.le_of_ble_eq_true rfl), (Nat.le_of_ble_eq_true rfl)⟩ dX6_moveFault_18) (fun hp_1 H locs hH => ?_)
  refine r_if_ne (tgt := 26) hM.fx (gz_r hp_1) dX6_moveFault_21 (by decide) (fun h_3 => ?_) (fun h_3 => ?_)
  · have hf := gneg' h_3 hf
    refine lv_iload_n hM.fx.1 hM.fx.2.1 dX6_moveFault_26 rfl (lv_at hl 1 rfl) ?_
    refine lv_bipush (v := gi (9)) hM.fx.1 hM.fx.2.1 dX6_moveFault_27 (by decide) ?_
    refine r_icmp_ne (tgt := 44) hM.fx hr1 (gcR (k := 9) (by decide)) dX6_moveFault_29 (by decide) (fun h_4 => ?_) (fun h_4 => ?_)
    · have hf := gneg' h_4 hf
      refine lv_iconst (v := gi (0)) hM.fx.1 hM.fx.2.1 dX6_moveFault_44 rfl ?_
      obtain rfl := Option.some.inj hf
      exact r_iret hM hH (gcR (k := 0) (by decide)) ⟨(Nat.le_of_ble_eq_true rfl), (Nat.le_of_ble_eq_true rfl)⟩ dX6_moveFault_45
    · have hf := gpos h_4 hf
      refine lv_aload_n hM.fx.1 hM.fx.2.1 dX6_moveFault_32 rfl (lv_at hl 0 rfl) ?_
      refine r_getI hM.fx hM.kf hH fl_X6_103 (hLC.in hg0 (by decide)) dX6_moveFault_33 ?_
      have hr_5 := hH.2.2.i (hLC.in hg0 (by decide)).2.2 (by decide : glg 5 10 = false)
      refine lv_iconst (v := gi (-1)) hM.fx.1 hM.fx.2.1 dX6_moveFault_36 rfl ?_
      refine r_icmp_eq (tgt := 44) hM.fx hr_5 (gcR (k := -1) (by decide)) dX6_moveFault_37 (by decide) (fun h_6 => ?_) (fun h_6 => ?_)
      · have hf := gpos h_6 hf
        refine lv_iconst (v := gi (0)) hM.fx.1 hM.fx.2.1 dX6_moveFault_44 rfl ?_
        obtain rfl := Option.some.inj hf
        exact r_iret hM hH (gcR (k := 0) (by decide)) ⟨(Nat.le_of_ble_eq_true rfl), (Nat.le_of_ble_eq_true rfl)⟩ dX6_moveFault_45
      · have hf := gneg' h_6 hf
        refine lv_iconst (v := gi (3)) hM.fx.1 hM.fx.2.1 dX6_moveFault_40 rfl ?_
        refine lv_goto (tgt := 45) hM.fx.1 hM.fx.2.1 dX6_moveFault_41 (by decide) ?_
        obtain rfl := Option.some.inj hf
        exact r_iret hM hH (gcR (k := 3) (by decide)) ⟨(Nat.le_of_ble_eq_true rfl), (Nat.le_of_ble_eq_true rfl)⟩ dX6_moveFault_45
  · have hf := gpos h_3 hf
    refine lv_iconst (v := gi (2)) hM.fx.1 hM.fx.2.1 dX6_moveFault_24 rfl ?_
    obtain rfl := Option.some.inj hf
    exact r_iret hM hH (gcR (k := 2) (by decide)) ⟨(Nat.le_of_ble_eq_true rfl), (Nat.le_of_ble_eq_true rfl)⟩ dX6_moveFault_25
def fX6_moveFault (g : Nat → Nat) (a0 : Nat) (x1 : Int) (x2 : Int) (M : gMem) : Option Int :=
  if x1 = 9 then (fX6_moveFault_16 g a0 x1 x2 M) else (if M a0 10 = (-1) then (some 1) else (fX6_moveFault_16 g a0 x1 x2 M))
set_option maxHeartbeats 4000000 in
set_option maxRecDepth 100000 in
theorem mX6_moveFault {w : gW} {n : Nat} {Rm : Nat → Nat → Nat} {g : Nat → Nat} (hLC : gLC g n Rm) {l : Launch} (hl9 : l.stackTraces = false) {a0 : Nat} {x1 : Int} {x2 : Int} {M : gMem} {r : Int} (hg0 : g a0 = 5) (hr1 : gRI x1) (hr2 : gRI x2) (hf : fX6_moveFault g a0 x1 x2 M = some r) : gMT w n Rm l yX6_moveFault cX6_moveFault 3 (some .int) 2 81 0 0 [.ref (w.1 + a0), .int (gi x1), .int (gi x2)] M (.inr (some (.int (gi r)))) M (gRI r) := by
  unfold fX6_moveFault at hf
  refine gMT.of hl9 (by decide +kernel) ((Nat.le_of_ble_eq_true rfl)) ?_
  intro p e s m below meth c hM hH ls hl
  have hM : gMC w p l s m ([.ref (w.1 + a0), .int (gi x1), .int (gi x2)] : List Value).toArray meth c cX6_moveFault 3 RX6 (some .int) := hM
  have hl : lv_has ls 3 [(0, .ref (w.1 + a0)), (1, .int (gi x1)), (2, .int (gi x2))] := hl
  refine lv_iload_n hM.fx.1 hM.fx.2.1 dX6_moveFault_0 rfl (lv_at hl 1 rfl) ?_
  refine lv_bipush (v := gi (9)) hM.fx.1 hM.fx.2.1 dX6_moveFault_1 (by decide) ?_
  refine r_icmp_eq (tgt := 16) hM.fx hr1 (gcR (k := 9) (by decide)) dX6_moveFault_3 (by decide) (fun h_1 => ?_) (fun h_1 => ?_)
  · have hf := gpos h_1 hf
    exact wX6_moveFault_16 hLC hM   _ _ _ _ _ hg0 hr1 hr2 hf _ _ _ hH hl
  · have hf := gneg' h_1 hf
    refine lv_aload_n hM.fx.1 hM.fx.2.1 dX6_moveFault_6 rfl (lv_at hl 0 rfl) ?_
    refine r_getI hM.fx hM.kf hH fl_X6_103 (hLC.in hg0 (by decide)) dX6_moveFault_7 ?_
    have hr_2 := hH.2.2.i (hLC.in hg0 (by decide)).2.2 (by decide : glg 5 10 = false)
    refine lv_iconst (v := gi (-1)) hM.fx.1 hM.fx.2.1 dX6_moveFault_10 rfl ?_
    refine r_icmp_ne (tgt := 16) hM.fx hr_2 (gcR (k := -1) (by decide)) dX6_moveFault_11 (by decide) (fun h_3 => ?_) (fun h_3 => ?_)
    · have hf := gneg' h_3 hf
      exact wX6_moveFault_16 hLC hM   _ _ _ _ _ hg0 hr1 hr2 hf _ _ _ hH hl
    · have hf := gpos h_3 hf
      refine lv_iconst (v := gi (1)) hM.fx.1 hM.fx.2.1 dX6_moveFault_14 rfl ?_
      obtain rfl := Option.some.inj hf
      exact r_iret hM hH (gcR (k := 1) (by decide)) ⟨(Nat.le_of_ble_eq_true rfl), (Nat.le_of_ble_eq_true rfl)⟩ dX6_moveFault_15
def fX6_waitReason_59 (g : Nat → Nat)  (x2 : Int) (xs0 : Int) (M : gMem) : Option Int :=
  if x2 = 8 then (if xs0 = 0 then (some 1) else (some 0)) else (if xs0 = 0 then (some 0) else (some 2))
set_option maxHeartbeats 4000000 in
set_option maxRecDepth 100000 in
theorem wX6_waitReason_59 {w : gW} {n : Nat} {Rm : Nat → Nat → Nat} {g : Nat → Nat} (hLC : gLC g n Rm) {p : Program} {l : Launch} {e : Env} {s : State} {m : MethodId} {args : Array Value} {below : List Frame} {meth : Method} {c : Code} (hM : gMC w p l s m args meth c cX6_waitReason 5 RX6 (some .int))  : ∀ (x2 : Int) (xs0 : Int) (M : gMem) (r : Int) (hr2 : gRI x2) (hrs0 : gRI xs0) (hf : fX6_waitReason_59 g x2 xs0 M = some r) (H : Heap) (locs : List Loc) (ls : Array Slot) (hH : gH w n Rm M s H locs) (hl : lv_has ls 5 [(2, .int (gi x2))]), W p l e { frames := 3, cells := 0, slots := 0, locals := 103 } s m args below meth c H locs 0 0 (gQ w n Rm below args s 0 0 (.inr (some (.int (gi r)))) M (gRI r)) (F0 m 59 ls [.int (gi xs0)]) := by
  intro x2 xs0 M r hr2 hrs0 hf H locs ls hH hl
  unfold fX6_waitReason_59 at hf
  refine lv_istore (lv' := [(4, .int (gi xs0)), (2, .int (gi x2))]) hM.fx.1 hM.fx.2.1 dX6_waitReason_59 hl (by decide) rfl (fun ls hl => ?_)
  refine lv_iload_n hM.fx.1 hM.fx.2.1 dX6_waitReason_61 rfl (lv_at hl 1 rfl) ?_
  refine lv_bipush (v := gi (8)) hM.fx.1 hM.fx.2.1 dX6_waitReason_62 (by decide) ?_
  refine r_icmp_ne (tgt := 78) hM.fx hr2 (gcR (k := 8) (by decide)) dX6_waitReason_64 (by decide) (fun h_1 => ?_) (fun h_1 => ?_)
  · have hf := gneg' h_1 hf
    refine lv_iload hM.fx.1 hM.fx.2.1 dX6_waitReason_78 (lv_at hl 0 rfl) ?_
    refine r_if_eq (tgt := 87) hM.fx hrs0 dX6_waitReason_80 (by decide) (fun h_2 => ?_) (fun h_2 => ?_)
    · have hf := gpos h_2 hf
      refine lv_iconst (v := gi (0)) hM.fx.1 hM.fx.2.1 dX6_waitReason_87 rfl ?_
      obtain rfl := Option.some.inj hf
      exact r_iret hM hH (gcR (k := 0) (by decide)) ⟨(Nat.le_of_ble_eq_true rfl), (Nat.le_of_ble_eq_true rfl)⟩ dX6_waitReason_88
    · have hf := gneg' h_2 hf
      refine lv_iconst (v := gi (2)) hM.fx.1 hM.fx.2.1 dX6_waitReason_83 rfl ?_
      refine lv_goto (tgt := 88) hM.fx.1 hM.fx.2.1 dX6_waitReason_84 (by decide) ?_
      obtain rfl := Option.some.inj hf
      exact r_iret hM hH (gcR (k := 2) (by decide)) ⟨(Nat.le_of_ble_eq_true rfl), (Nat.le_of_ble_eq_true rfl)⟩ dX6_waitReason_88
  · have hf := gpos h_1 hf
    refine lv_iload hM.fx.1 hM.fx.2.1 dX6_waitReason_67 (lv_at hl 0 rfl) ?_
    refine r_if_eq (tgt := 76) hM.fx hrs0 dX6_waitReason_69 (by decide) (fun h_3 => ?_) (fun h_3 => ?_)
    · have hf := gpos h_3 hf
      refine lv_iconst (v := gi (1)) hM.fx.1 hM.fx.2.1 dX6_waitReason_76 rfl ?_
      obtain rfl := Option.some.inj hf
      exact r_iret hM hH (gcR (k := 1) (by decide)) ⟨(Nat.le_of_ble_eq_true rfl), (Nat.le_of_ble_eq_true rfl)⟩ dX6_waitReason_77
    · have hf := gneg' h_3 hf
      refine lv_iconst (v := gi (0)) hM.fx.1 hM.fx.2.1 dX6_waitReason_72 rfl ?_
      refine lv_goto (tgt := 77) hM.fx.1 hM.fx.2.1 dX6_waitReason_73 (by decide) ?_
      obtain rfl := Option.some.inj hf
      exact r_iret hM hH (gcR (k := 0) (by decide)) ⟨(Nat.le_of_ble_eq_true rfl), (Nat.le_of_ble_eq_true rfl)⟩ dX6_waitReason_77
def fX6_waitReason (g : Nat → Nat) (a0 : Nat) (a1 : Nat) (M : gMem) : Option Int :=
  (fX4_kindAt g a1 (M a1 7) M).bind fun x_3 => if M a1 8 = 0 then ((fX6_isMove g x_3).bind fun x_7 => if x_7 = 0 then (some 0) else ((fX4_operandAt g a1 (M a1 7) M).bind fun x_11 => (fX6_moveFault g a1 x_3 x_11 M).bind fun x_13 => if x_13 = 0 then ((fX0_lyingOn g a0 x_11 M).bind fun x_16 => if x_16 = (-1) then (fX6_waitReason_59 g x_3 1 M) else (fX6_waitReason_59 g x_3 0 M)) else (some 0))) else (some 0)
set_option maxHeartbeats 4000000 in
set_option maxRecDepth 100000 in
theorem mX6_waitReason {w : gW} {n : Nat} {Rm : Nat → Nat → Nat} {g : Nat → Nat} (hLC : gLC g n Rm) {l : Launch} (hl9 : l.stackTraces = false) {a0 : Nat} {a1 : Nat} {M : gMem} {r : Int} (hg0 : g a0 = 1) (hg1 : g a1 = 5) (hf : fX6_waitReason g a0 a1 M = some r) : gMT w n Rm l yX6_waitReason cX6_waitReason 5 (some .int) 3 103 0 0 [.ref (w.1 + a0), .ref (w.1 + a1)] M (.inr (some (.int (gi r)))) M (gRI r) := by
  unfold fX6_waitReason at hf
  refine gMT.of hl9 (by decide +kernel) ((Nat.le_of_ble_eq_true rfl)) ?_
  intro p e s m below meth c hM hH ls hl
  have hM : gMC w p l s m ([.ref (w.1 + a0), .ref (w.1 + a1)] : List Value).toArray meth c cX6_waitReason 5 RX6 (some .int) := hM
  have hl : lv_has ls 5 [(0, .ref (w.1 + a0)), (1, .ref (w.1 + a1))] := hl
  refine lv_aload_n hM.fx.1 hM.fx.2.1 dX6_waitReason_0 rfl (lv_at hl 1 rfl) ?_
  refine lv_aload_n hM.fx.1 hM.fx.2.1 dX6_waitReason_1 rfl (lv_at hl 1 rfl) ?_
  refine r_getI hM.fx hM.kf hH fl_X6_38 (hLC.in hg1 (by decide)) dX6_waitReason_2 ?_
  have hr_1 := hH.2.2.i (hLC.in hg1 (by decide)).2.2 (by decide : glg 5 7 = false)
  obtain ⟨x_3, ex_3, hf⟩ := gbd hf
  refine r_go1 hH rfl (r_runV (As := [.int (gi (M a1 7))]) hM hH cv_X6_41 (mX4_kindAt hLC hM.ns hg1 hr_1 ex_3) (hLC.in hg1 (by decide)) (by decide) rfl rfl rfl hl.1 rfl (Nat.le_of_ble_eq_true rfl) ⟨(Nat.le_of_ble_eq_true rfl), (Nat.le_of_ble_eq_true rfl)⟩ ⟨(Nat.le_of_ble_eq_true rfl), (Nat.le_of_ble_eq_true rfl)⟩ dX6_waitReason_5) (fun hp_2 H locs hH => ?_)
  refine lv_istore_n (lv' := [(2, .int (gi x_3)), (0, .ref (w.1 + a0)), (1, .ref (w.1 + a1))]) hM.fx.1 hM.fx.2.1 dX6_waitReason_8 rfl hl (by decide) rfl (fun ls hl => ?_)
  refine lv_aload_n hM.fx.1 hM.fx.2.1 dX6_waitReason_9 rfl (lv_at hl 2 rfl) ?_
  refine r_getI hM.fx hM.kf hH fl_X6_29 (hLC.in hg1 (by decide)) dX6_waitReason_10 ?_
  have hr_4 := hH.2.2.i (hLC.in hg1 (by decide)).2.2 (by decide : glg 5 8 = false)
  refine r_if_ne (tgt := 23) hM.fx hr_4 dX6_waitReason_13 (by decide) (fun h_5 => ?_) (fun h_5 => ?_)
  · have hf := gneg' h_5 hf
    refine lv_iconst (v := gi (0)) hM.fx.1 hM.fx.2.1 dX6_waitReason_23 rfl ?_
    obtain rfl := Option.some.inj hf
    exact r_iret hM hH (gcR (k := 0) (by decide)) ⟨(Nat.le_of_ble_eq_true rfl), (Nat.le_of_ble_eq_true rfl)⟩ dX6_waitReason_24
  · have hf := gpos h_5 hf
    refine lv_iload_n hM.fx.1 hM.fx.2.1 dX6_waitReason_16 rfl (lv_at hl 0 rfl) ?_
    obtain ⟨x_7, ex_7, hf⟩ := gbd hf
    refine r_go1 hH rfl (r_runS (As := [.int (gi x_3)]) hM hH cs_X6_45 (mX6_isMove hLC hM.ns hp_2 ex_7) rfl hl.1 rfl (Nat.le_of_ble_eq_true rfl) ⟨(Nat.le_of_ble_eq_true rfl), (Nat.le_of_ble_eq_true rfl)⟩ ⟨(Nat.le_of_ble_eq_true rfl), (Nat.le_of_ble_eq_true rfl)⟩ dX6_waitReason_17) (fun hp_6 H locs hH => ?_)
    refine r_if_ne (tgt := 25) hM.fx (gz_r hp_6) dX6_waitReason_20 (by decide) (fun h_8 => ?_) (fun h_8 => ?_)
    · have hf := gneg' h_8 hf
      refine lv_aload_n hM.fx.1 hM.fx.2.1 dX6_waitReason_25 rfl (lv_at hl 2 rfl) ?_
      refine lv_aload_n hM.fx.1 hM.fx.2.1 dX6_waitReason_26 rfl (lv_at hl 2 rfl) ?_
      refine r_getI hM.fx hM.kf hH fl_X6_38 (hLC.in hg1 (by decide)) dX6_waitReason_27 ?_
      have hr_9 := hH.2.2.i (hLC.in hg1 (by decide)).2.2 (by decide : glg 5 7 = false)
      obtain ⟨x_11, ex_11, hf⟩ := gbd hf
      refine r_go1 hH rfl (r_runV (As := [.int (gi (M a1 7))]) hM hH cv_X6_49 (mX4_operandAt hLC hM.ns hg1 hr_9 ex_11) (hLC.in hg1 (by decide)) (by decide) rfl rfl rfl hl.1 rfl (Nat.le_of_ble_eq_true rfl) ⟨(Nat.le_of_ble_eq_true rfl), (Nat.le_of_ble_eq_true rfl)⟩ ⟨(Nat.le_of_ble_eq_true rfl), (Nat.le_of_ble_eq_true rfl)⟩ dX6_waitReason_30) (fun hp_10 H locs hH => ?_)
      refine lv_istore_n (lv' := [(3, .int (gi x_11)), (2, .int (gi x_3)), (0, .ref (w.1 + a0)), (1, .ref (w.1 + a1))]) hM.fx.1 hM.fx.2.1 dX6_waitReason_33 rfl hl (by decide) rfl (fun ls hl => ?_)
      refine lv_aload_n hM.fx.1 hM.fx.2.1 dX6_waitReason_34 rfl (lv_at hl 3 rfl) ?_
      refine lv_iload_n hM.fx.1 hM.fx.2.1 dX6_waitReason_35 rfl (lv_at hl 1 rfl) ?_
      refine lv_iload_n hM.fx.1 hM.fx.2.1 dX6_waitReason_36 rfl (lv_at hl 0 rfl) ?_
      obtain ⟨x_13, ex_13, hf⟩ := gbd hf
      refine r_go1 hH rfl (r_runS (As := [.ref (w.1 + a1), .int (gi x_3), .int (gi x_11)]) hM hH cs_X6_52 (mX6_moveFault hLC hM.ns hg1 hp_2 hp_10 ex_13) rfl hl.1 rfl (Nat.le_of_ble_eq_true rfl) ⟨(Nat.le_of_ble_eq_true rfl), (Nat.le_of_ble_eq_true rfl)⟩ ⟨(Nat.le_of_ble_eq_true rfl), (Nat.le_of_ble_eq_true rfl)⟩ dX6_waitReason_37) (fun hp_12 H locs hH => ?_)
      refine r_if_eq (tgt := 45) hM.fx hp_12 dX6_waitReason_40 (by decide) (fun h_14 => ?_) (fun h_14 => ?_)
      · have hf := gpos h_14 hf
        refine lv_aload_n hM.fx.1 hM.fx.2.1 dX6_waitReason_45 rfl (lv_at hl 2 rfl) ?_
        refine lv_iload_n hM.fx.1 hM.fx.2.1 dX6_waitReason_46 rfl (lv_at hl 0 rfl) ?_
        obtain ⟨x_16, ex_16, hf⟩ := gbd hf
        refine r_go1 hH rfl (r_runV (As := [.int (gi x_11)]) hM hH cv_X6_56 (mX0_lyingOn hLC hM.ns hg0 hp_10 ex_16) (hLC.in hg0 (by decide)) (by decide) rfl rfl rfl hl.1 rfl (Nat.le_of_ble_eq_true rfl) ⟨(Nat.le_of_ble_eq_true rfl), (Nat.le_of_ble_eq_true rfl)⟩ ⟨(Nat.le_of_ble_eq_true rfl), (Nat.le_of_ble_eq_true rfl)⟩ dX6_waitReason_47) (fun hp_15 H locs hH => ?_)
        refine lv_iconst (v := gi (-1)) hM.fx.1 hM.fx.2.1 dX6_waitReason_50 rfl ?_
        refine r_icmp_ne (tgt := 58) hM.fx hp_15 (gcR (k := -1) (by decide)) dX6_waitReason_51 (by decide) (fun h_17 => ?_) (fun h_17 => ?_)
        · have hf := gneg' h_17 hf
          refine lv_iconst (v := gi (0)) hM.fx.1 hM.fx.2.1 dX6_waitReason_58 rfl ?_
          exact wX6_waitReason_59 hLC hM   _ _ _ _ hp_2 (gcR (k := 0) (by decide)) hf _ _ _ hH (lv_sub hl [1] rfl)
        · have hf := gpos h_17 hf
          refine lv_iconst (v := gi (1)) hM.fx.1 hM.fx.2.1 dX6_waitReason_54 rfl ?_
          refine lv_goto (tgt := 59) hM.fx.1 hM.fx.2.1 dX6_waitReason_55 (by decide) ?_
          exact wX6_waitReason_59 hLC hM   _ _ _ _ hp_2 (gcR (k := 1) (by decide)) hf _ _ _ hH (lv_sub hl [1] rfl)
      · have hf := gneg' h_14 hf
        refine lv_iconst (v := gi (0)) hM.fx.1 hM.fx.2.1 dX6_waitReason_43 rfl ?_
        obtain rfl := Option.some.inj hf
        exact r_iret hM hH (gcR (k := 0) (by decide)) ⟨(Nat.le_of_ble_eq_true rfl), (Nat.le_of_ble_eq_true rfl)⟩ dX6_waitReason_44
    · have hf := gpos h_8 hf
      refine lv_iconst (v := gi (0)) hM.fx.1 hM.fx.2.1 dX6_waitReason_23 rfl ?_
      obtain rfl := Option.some.inj hf
      exact r_iret hM hH (gcR (k := 0) (by decide)) ⟨(Nat.le_of_ble_eq_true rfl), (Nat.le_of_ble_eq_true rfl)⟩ dX6_waitReason_24
def fX6_isOver_37 (g : Nat → Nat) (k2 : Nat → Int → gMem → Option Int) (a0 : Nat) (x1 : Int) (M : gMem) : Option Int :=
  gst (gwi (x1 + 1)) fun x_1 => k2 a0 x_1 M
set_option maxHeartbeats 4000000 in
set_option maxRecDepth 100000 in
theorem wX6_isOver_37 {w : gW} {n : Nat} {Rm : Nat → Nat → Nat} {g : Nat → Nat} (hLC : gLC g n Rm) {p : Program} {l : Launch} {e : Env} {s : State} {m : MethodId} {args : Array Value} {below : List Frame} {meth : Method} {c : Code} (hM : gMC w p l s m args meth c cX6_isOver 3 RX6 (some .boolean)) (k2 : Nat → Int → gMem → Option Int) (hk2 : ∀ (a0 : Nat) (x1 : Int) (M : gMem) (r : Int) (hg0 : g a0 = 1) (hr1 : gRI x1) (hf : k2 a0 x1 M = some r) (H : Heap) (locs : List Loc) (ls : Array Slot) (hH : gH w n Rm M s H locs) (hl : lv_has ls 3 [(0, .ref (w.1 + a0)), (1, .int (gi x1))]), W p l e { frames := 4, cells := 0, slots := 0, locals := 127 } s m args below meth c H locs 0 0 (gQ w n Rm below args s 0 0 (.inr (some (.int (gi r)))) M (r = 0 ∨ r = 1)) (F0 m 2 ls [])) : ∀ (a0 : Nat) (x1 : Int) (M : gMem) (r : Int) (hg0 : g a0 = 1) (hr1 : gRI x1) (hf : fX6_isOver_37 g k2 a0 x1 M = some r) (H : Heap) (locs : List Loc) (ls : Array Slot) (hH : gH w n Rm M s H locs) (hl : lv_has ls 3 [(0, .ref (w.1 + a0)), (1, .int (gi x1))]), W p l e { frames := 4, cells := 0, slots := 0, locals := 127 } s m args below meth c H locs 0 0 (gQ w n Rm below args s 0 0 (.inr (some (.int (gi r)))) M (r = 0 ∨ r = 1)) (F0 m 37 ls []) := by
  intro a0 x1 M r hg0 hr1 hf H locs ls hH hl
  unfold fX6_isOver_37 at hf
  obtain ⟨x_1, ex_1, hf⟩ := gst_s hf
  have hx_1 : gRI x_1 := by rw [ex_1]; exact gwi_r _
  refine r_iinc (lv' := [(1, .int (gi x_1)), (0, .ref (w.1 + a0))]) hM.fx dX6_isOver_37 hl (k := 1) rfl (by decide) (by rw [ex_1]; rfl) (fun ls hl => ?_)
  refine lv_goto (tgt := 2) hM.fx.1 hM.fx.2.1 dX6_isOver_40 (by decide) ?_
  exact hk2 _ _ _ _ hg0 hx_1 hf _ _ _ hH (lv_sub hl [1, 0] rfl)
def fX6_isOver_2 (g : Nat → Nat)  : Nat → Nat → Int → gMem → Option Int
  | 0, _, _, _ => none
  | fu + 1, a0, x1, M => if M a0 5 ≤ x1 then (some 1) else ((fX0_procAt g a0 x1 M).bind fun a_4 => if a_4 = 0 then (fX6_isOver_37 g (fX6_isOver_2 g fu) a0 x1 M) else (if M a_4 8 = 0 then ((fX6_waitReason g a0 a_4 M).bind fun x_9 => if x_9 = 0 then (some 0) else (fX6_isOver_37 g (fX6_isOver_2 g fu) a0 x1 M)) else (fX6_isOver_37 g (fX6_isOver_2 g fu) a0 x1 M)))
set_option maxHeartbeats 4000000 in
set_option maxRecDepth 100000 in
theorem wX6_isOver_2 {w : gW} {n : Nat} {Rm : Nat → Nat → Nat} {g : Nat → Nat} (hLC : gLC g n Rm) {p : Program} {l : Launch} {e : Env} {s : State} {m : MethodId} {args : Array Value} {below : List Frame} {meth : Method} {c : Code} (hM : gMC w p l s m args meth c cX6_isOver 3 RX6 (some .boolean))  : ∀ (fu : Nat), ∀ (a0 : Nat) (x1 : Int) (M : gMem) (r : Int) (hg0 : g a0 = 1) (hr1 : gRI x1) (hf : fX6_isOver_2 g fu a0 x1 M = some r) (H : Heap) (locs : List Loc) (ls : Array Slot) (hH : gH w n Rm M s H locs) (hl : lv_has ls 3 [(0, .ref (w.1 + a0)), (1, .int (gi x1))]), W p l e { frames := 4, cells := 0, slots := 0, locals := 127 } s m args below meth c H locs 0 0 (gQ w n Rm below args s 0 0 (.inr (some (.int (gi r)))) M (r = 0 ∨ r = 1)) (F0 m 2 ls []) := by
  intro fu
  induction fu with
  | zero =>
    intro a0 x1 M r hg0 hr1 hf H locs ls hH hl
    exact absurd hf (by simp [fX6_isOver_2])
  | succ fu ih =>
    intro a0 x1 M r hg0 hr1 hf H locs ls hH hl
    unfold fX6_isOver_2 at hf
    refine lv_iload_n hM.fx.1 hM.fx.2.1 dX6_isOver_2 rfl (lv_at hl 1 rfl) ?_
    refine lv_aload_n hM.fx.1 hM.fx.2.1 dX6_isOver_3 rfl (lv_at hl 0 rfl) ?_
    refine r_getI hM.fx hM.kf hH fl_X6_19 (hLC.in hg0 (by decide)) dX6_isOver_4 ?_
    have hr_1 := hH.2.2.i (hLC.in hg0 (by decide)).2.2 (by decide : glg 1 5 = false)
    refine r_icmp_ge (tgt := 43) hM.fx hr1 hr_1 dX6_isOver_7 (by decide) (fun h_2 => ?_) (fun h_2 => ?_)
    · have hf := gpos h_2 hf
      refine lv_iconst (v := gi (1)) hM.fx.1 hM.fx.2.1 dX6_isOver_43 rfl ?_
      obtain rfl := Option.some.inj hf
      exact r_zret hM hH (Or.inr rfl) (Or.inr rfl) ⟨(Nat.le_of_ble_eq_true rfl), (Nat.le_of_ble_eq_true rfl)⟩ dX6_isOver_44
    · have hf := gneg' h_2 hf
      refine lv_aload_n hM.fx.1 hM.fx.2.1 dX6_isOver_10 rfl (lv_at hl 0 rfl) ?_
      refine lv_iload_n hM.fx.1 hM.fx.2.1 dX6_isOver_11 rfl (lv_at hl 1 rfl) ?_
      obtain ⟨a_4, ea_4, hf⟩ := gbd hf
      refine r_go1 hH rfl (r_runV (As := [.int (gi x1)]) hM hH cv_X6_25 (mX0_procAt hLC hM.ns hg0 hr1 ea_4) (hLC.in hg0 (by decide)) (by decide) rfl rfl rfl hl.1 rfl (Nat.le_of_ble_eq_true rfl) ⟨(Nat.le_of_ble_eq_true rfl), (Nat.le_of_ble_eq_true rfl)⟩ ⟨(Nat.le_of_ble_eq_true rfl), (Nat.le_of_ble_eq_true rfl)⟩ dX6_isOver_12) (fun hp_3 H locs hH => ?_)
      refine r_astore_nV (lv' := [(2, gvR w a_4), (0, .ref (w.1 + a0)), (1, .int (gi x1))]) hM.fx dX6_isOver_15 rfl hl (by decide) rfl (fun ls hl => ?_)
      refine r_aload_nV hM.fx dX6_isOver_16 rfl (lv_at hl 0 rfl) ?_
      refine r_ifnull (tgt := 37) hM.fx dX6_isOver_17 (by decide) (fun h_5 => ?_) (fun h_5 => ?_)
      · have hf := gpos h_5 hf
        exact wX6_isOver_37 hLC hM (fX6_isOver_2 g fu) ih  _ _ _ _ hg0 hr1 hf _ _ _ hH (lv_sub hl [1, 2] rfl)
      · have hf := gneg' h_5 hf
        rw [gvR_nn h_5] at hl
        refine lv_aload_n hM.fx.1 hM.fx.2.1 dX6_isOver_20 rfl (lv_at hl 0 rfl) ?_
        refine r_getI hM.fx hM.kf hH fl_X6_29 (hLC.in (hp_3 h_5) (by decide)) dX6_isOver_21 ?_
        have hr_6 := hH.2.2.i (hLC.in (hp_3 h_5) (by decide)).2.2 (by decide : glg 5 8 = false)
        refine r_if_ne (tgt := 37) hM.fx hr_6 dX6_isOver_24 (by decide) (fun h_7 => ?_) (fun h_7 => ?_)
        · have hf := gneg' h_7 hf
          exact wX6_isOver_37 hLC hM (fX6_isOver_2 g fu) ih  _ _ _ _ hg0 hr1 hf _ _ _ hH (lv_sub hl [1, 2] rfl)
        · have hf := gpos h_7 hf
          refine lv_aload_n hM.fx.1 hM.fx.2.1 dX6_isOver_27 rfl (lv_at hl 1 rfl) ?_
          refine lv_aload_n hM.fx.1 hM.fx.2.1 dX6_isOver_28 rfl (lv_at hl 0 rfl) ?_
          obtain ⟨x_9, ex_9, hf⟩ := gbd hf
          refine r_go1 hH rfl (r_runS (As := [.ref (w.1 + a0), .ref (w.1 + a_4)]) hM hH cs_X6_34 (mX6_waitReason hLC hM.ns hg0 (hp_3 h_5) ex_9) rfl hl.1 rfl (Nat.le_of_ble_eq_true rfl) ⟨(Nat.le_of_ble_eq_true rfl), (Nat.le_of_ble_eq_true rfl)⟩ ⟨(Nat.le_of_ble_eq_true rfl), (Nat.le_of_ble_eq_true rfl)⟩ dX6_isOver_29) (fun hp_8 H locs hH => ?_)
          refine r_if_ne (tgt := 37) hM.fx hp_8 dX6_isOver_32 (by decide) (fun h_10 => ?_) (fun h_10 => ?_)
          · have hf := gneg' h_10 hf
            exact wX6_isOver_37 hLC hM (fX6_isOver_2 g fu) ih  _ _ _ _ hg0 hr1 hf _ _ _ hH (lv_sub hl [1, 2] rfl)
          · have hf := gpos h_10 hf
            refine lv_iconst (v := gi (0)) hM.fx.1 hM.fx.2.1 dX6_isOver_35 rfl ?_
            obtain rfl := Option.some.inj hf
            exact r_zret hM hH (Or.inl rfl) (Or.inl rfl) ⟨(Nat.le_of_ble_eq_true rfl), (Nat.le_of_ble_eq_true rfl)⟩ dX6_isOver_36
def fX6_isOver (g : Nat → Nat) (a0 : Nat) (M : gMem) : Option Int :=
  fX6_isOver_2 g gF a0 0 M
set_option maxHeartbeats 4000000 in
set_option maxRecDepth 100000 in
theorem mX6_isOver {w : gW} {n : Nat} {Rm : Nat → Nat → Nat} {g : Nat → Nat} (hLC : gLC g n Rm) {l : Launch} (hl9 : l.stackTraces = false) {a0 : Nat} {M : gMem} {r : Int} (hg0 : g a0 = 1) (hf : fX6_isOver g a0 M = some r) : gMT w n Rm l yX6_isOver cX6_isOver 3 (some .boolean) 4 127 0 0 [.ref (w.1 + a0)] M (.inr (some (.int (gi r)))) M (r = 0 ∨ r = 1) := by
  unfold fX6_isOver at hf
  refine gMT.of hl9 (by decide +kernel) ((Nat.le_of_ble_eq_true rfl)) ?_
  intro p e s m below meth c hM hH ls hl
  have hM : gMC w p l s m ([.ref (w.1 + a0)] : List Value).toArray meth c cX6_isOver 3 RX6 (some .boolean) := hM
  have hl : lv_has ls 3 [(0, .ref (w.1 + a0))] := hl
  refine lv_iconst (v := gi (0)) hM.fx.1 hM.fx.2.1 dX6_isOver_0 rfl ?_
  refine lv_istore_n (lv' := [(1, .int (gi 0)), (0, .ref (w.1 + a0))]) hM.fx.1 hM.fx.2.1 dX6_isOver_1 rfl hl (by decide) rfl (fun ls hl => ?_)
  exact wX6_isOver_2 hLC hM  gF _ _ _ _ hg0 (gcR (k := 0) (by decide)) hf _ _ _ hH (lv_sub hl [1, 0] rfl)
def fX6_numbersNeeded (g : Nat → Nat) (x0 : Int) : Option Int :=
  if x0 = 1 then (some 1) else (if x0 = 2 then (some 1) else (if x0 = 3 then (some 2) else (if x0 = 4 then (some 2) else (if x0 = 5 then (some 2) else (if x0 = 6 then (some 2) else (if x0 = 7 then (some 1) else (if x0 = 8 then (some 0) else (if x0 = 9 then (some 0) else (if x0 = 10 then (some 0) else (if x0 = 11 then (some 0) else (if x0 = 12 then (some 1) else (some 0))))))))))))
set_option maxHeartbeats 4000000 in
set_option maxRecDepth 100000 in
theorem mX6_numbersNeeded {w : gW} {n : Nat} {Rm : Nat → Nat → Nat} {g : Nat → Nat} (hLC : gLC g n Rm) {l : Launch} (hl9 : l.stackTraces = false) {x0 : Int} {M : gMem} {r : Int} (hr0 : gRI x0) (hf : fX6_numbersNeeded g x0 = some r) : gMT w n Rm l yX6_numbersNeeded cX6_numbersNeeded 1 (some .int) 1 60 0 0 [.int (gi x0)] M (.inr (some (.int (gi r)))) M (gRI r) := by
  unfold fX6_numbersNeeded at hf
  refine gMT.of hl9 (by decide +kernel) ((Nat.le_of_ble_eq_true rfl)) ?_
  intro p e s m below meth c hM hH ls hl
  have hM : gMC w p l s m ([.int (gi x0)] : List Value).toArray meth c cX6_numbersNeeded 1 RX6 (some .int) := hM
  have hl : lv_has ls 1 [(0, .int (gi x0))] := hl
  refine lv_iload_n hM.fx.1 hM.fx.2.1 dX6_numbersNeeded_0 rfl (lv_at hl 0 rfl) ?_
  by_cases h_1 : x0 = 1
  · refine r_tsIn (tgt := 64) hM.fx hr0 1 dX6_numbersNeeded_1 h_1 (by decide) rfl (by decide) ?_
    have hf := gpos h_1 hf
    refine lv_iconst (v := gi (1)) hM.fx.1 hM.fx.2.1 dX6_numbersNeeded_64 rfl ?_
    obtain rfl := Option.some.inj hf
    exact r_iret hM hH (gcR (k := 1) (by decide)) ⟨(Nat.le_of_ble_eq_true rfl), (Nat.le_of_ble_eq_true rfl)⟩ dX6_numbersNeeded_65
  · have hf := gneg' h_1 hf
    by_cases h_2 : x0 = 2
    · refine r_tsIn (tgt := 64) hM.fx hr0 2 dX6_numbersNeeded_1 h_2 (by decide) rfl (by decide) ?_
      have hf := gpos h_2 hf
      refine lv_iconst (v := gi (1)) hM.fx.1 hM.fx.2.1 dX6_numbersNeeded_64 rfl ?_
      obtain rfl := Option.some.inj hf
      exact r_iret hM hH (gcR (k := 1) (by decide)) ⟨(Nat.le_of_ble_eq_true rfl), (Nat.le_of_ble_eq_true rfl)⟩ dX6_numbersNeeded_65
    · have hf := gneg' h_2 hf
      by_cases h_3 : x0 = 3
      · refine r_tsIn (tgt := 66) hM.fx hr0 3 dX6_numbersNeeded_1 h_3 (by decide) rfl (by decide) ?_
        have hf := gpos h_3 hf
        refine lv_iconst (v := gi (2)) hM.fx.1 hM.fx.2.1 dX6_numbersNeeded_66 rfl ?_
        obtain rfl := Option.some.inj hf
        exact r_iret hM hH (gcR (k := 2) (by decide)) ⟨(Nat.le_of_ble_eq_true rfl), (Nat.le_of_ble_eq_true rfl)⟩ dX6_numbersNeeded_67
      · have hf := gneg' h_3 hf
        by_cases h_4 : x0 = 4
        · refine r_tsIn (tgt := 66) hM.fx hr0 4 dX6_numbersNeeded_1 h_4 (by decide) rfl (by decide) ?_
          have hf := gpos h_4 hf
          refine lv_iconst (v := gi (2)) hM.fx.1 hM.fx.2.1 dX6_numbersNeeded_66 rfl ?_
          obtain rfl := Option.some.inj hf
          exact r_iret hM hH (gcR (k := 2) (by decide)) ⟨(Nat.le_of_ble_eq_true rfl), (Nat.le_of_ble_eq_true rfl)⟩ dX6_numbersNeeded_67
        · have hf := gneg' h_4 hf
          by_cases h_5 : x0 = 5
          · refine r_tsIn (tgt := 66) hM.fx hr0 5 dX6_numbersNeeded_1 h_5 (by decide) rfl (by decide) ?_
            have hf := gpos h_5 hf
            refine lv_iconst (v := gi (2)) hM.fx.1 hM.fx.2.1 dX6_numbersNeeded_66 rfl ?_
            obtain rfl := Option.some.inj hf
            exact r_iret hM hH (gcR (k := 2) (by decide)) ⟨(Nat.le_of_ble_eq_true rfl), (Nat.le_of_ble_eq_true rfl)⟩ dX6_numbersNeeded_67
          · have hf := gneg' h_5 hf
            by_cases h_6 : x0 = 6
            · refine r_tsIn (tgt := 66) hM.fx hr0 6 dX6_numbersNeeded_1 h_6 (by decide) rfl (by decide) ?_
              have hf := gpos h_6 hf
              refine lv_iconst (v := gi (2)) hM.fx.1 hM.fx.2.1 dX6_numbersNeeded_66 rfl ?_
              obtain rfl := Option.some.inj hf
              exact r_iret hM hH (gcR (k := 2) (by decide)) ⟨(Nat.le_of_ble_eq_true rfl), (Nat.le_of_ble_eq_true rfl)⟩ dX6_numbersNeeded_67
            · have hf := gneg' h_6 hf
              by_cases h_7 : x0 = 7
              · refine r_tsIn (tgt := 64) hM.fx hr0 7 dX6_numbersNeeded_1 h_7 (by decide) rfl (by decide) ?_
                have hf := gpos h_7 hf
                refine lv_iconst (v := gi (1)) hM.fx.1 hM.fx.2.1 dX6_numbersNeeded_64 rfl ?_
                obtain rfl := Option.some.inj hf
                exact r_iret hM hH (gcR (k := 1) (by decide)) ⟨(Nat.le_of_ble_eq_true rfl), (Nat.le_of_ble_eq_true rfl)⟩ dX6_numbersNeeded_65
              · have hf := gneg' h_7 hf
                by_cases h_8 : x0 = 8
                · refine r_tsIn (tgt := 68) hM.fx hr0 8 dX6_numbersNeeded_1 h_8 (by decide) rfl (by decide) ?_
                  have hf := gpos h_8 hf
                  refine lv_iconst (v := gi (0)) hM.fx.1 hM.fx.2.1 dX6_numbersNeeded_68 rfl ?_
                  obtain rfl := Option.some.inj hf
                  exact r_iret hM hH (gcR (k := 0) (by decide)) ⟨(Nat.le_of_ble_eq_true rfl), (Nat.le_of_ble_eq_true rfl)⟩ dX6_numbersNeeded_69
                · have hf := gneg' h_8 hf
                  by_cases h_9 : x0 = 9
                  · refine r_tsIn (tgt := 68) hM.fx hr0 9 dX6_numbersNeeded_1 h_9 (by decide) rfl (by decide) ?_
                    have hf := gpos h_9 hf
                    refine lv_iconst (v := gi (0)) hM.fx.1 hM.fx.2.1 dX6_numbersNeeded_68 rfl ?_
                    obtain rfl := Option.some.inj hf
                    exact r_iret hM hH (gcR (k := 0) (by decide)) ⟨(Nat.le_of_ble_eq_true rfl), (Nat.le_of_ble_eq_true rfl)⟩ dX6_numbersNeeded_69
                  · have hf := gneg' h_9 hf
                    by_cases h_10 : x0 = 10
                    · refine r_tsIn (tgt := 68) hM.fx hr0 10 dX6_numbersNeeded_1 h_10 (by decide) rfl (by decide) ?_
                      have hf := gpos h_10 hf
                      refine lv_iconst (v := gi (0)) hM.fx.1 hM.fx.2.1 dX6_numbersNeeded_68 rfl ?_
                      obtain rfl := Option.some.inj hf
                      exact r_iret hM hH (gcR (k := 0) (by decide)) ⟨(Nat.le_of_ble_eq_true rfl), (Nat.le_of_ble_eq_true rfl)⟩ dX6_numbersNeeded_69
                    · have hf := gneg' h_10 hf
                      by_cases h_11 : x0 = 11
                      · refine r_tsIn (tgt := 68) hM.fx hr0 11 dX6_numbersNeeded_1 h_11 (by decide) rfl (by decide) ?_
                        have hf := gpos h_11 hf
                        refine lv_iconst (v := gi (0)) hM.fx.1 hM.fx.2.1 dX6_numbersNeeded_68 rfl ?_
                        obtain rfl := Option.some.inj hf
                        exact r_iret hM hH (gcR (k := 0) (by decide)) ⟨(Nat.le_of_ble_eq_true rfl), (Nat.le_of_ble_eq_true rfl)⟩ dX6_numbersNeeded_69
                      · have hf := gneg' h_11 hf
                        by_cases h_12 : x0 = 12
                        · refine r_tsIn (tgt := 64) hM.fx hr0 12 dX6_numbersNeeded_1 h_12 (by decide) rfl (by decide) ?_
                          have hf := gpos h_12 hf
                          refine lv_iconst (v := gi (1)) hM.fx.1 hM.fx.2.1 dX6_numbersNeeded_64 rfl ?_
                          obtain rfl := Option.some.inj hf
                          exact r_iret hM hH (gcR (k := 1) (by decide)) ⟨(Nat.le_of_ble_eq_true rfl), (Nat.le_of_ble_eq_true rfl)⟩ dX6_numbersNeeded_65
                        · have hf := gneg' h_12 hf
                          refine r_tsOut (tgt := 68) hM.fx hr0 dX6_numbersNeeded_1 (by omega) (by decide) ?_
                          refine lv_iconst (v := gi (0)) hM.fx.1 hM.fx.2.1 dX6_numbersNeeded_68 rfl ?_
                          obtain rfl := Option.some.inj hf
                          exact r_iret hM hH (gcR (k := 0) (by decide)) ⟨(Nat.le_of_ble_eq_true rfl), (Nat.le_of_ble_eq_true rfl)⟩ dX6_numbersNeeded_69
def fX6_combined (g : Nat → Nat) (x0 : Int) (x1 : Int) (x3 : Int) : Option Int :=
  if x0 = 4 then (some (gwl (x1 + x3))) else (if x0 = 5 then (some (gwl (x1 - x3))) else (some (gwl (x1 * x3))))
set_option maxHeartbeats 4000000 in
set_option maxRecDepth 100000 in
theorem mX6_combined {w : gW} {n : Nat} {Rm : Nat → Nat → Nat} {g : Nat → Nat} (hLC : gLC g n Rm) {l : Launch} (hl9 : l.stackTraces = false) {x0 : Int} {x1 : Int} {x3 : Int} {M : gMem} {r : Int} (hr0 : gRI x0) (hr1 : gRL x1) (hr3 : gRL x3) (hf : fX6_combined g x0 x1 x3 = some r) : gMT w n Rm l yX6_combined cX6_combined 5 (some .long) 1 60 0 0 [.int (gi x0), .long (gj x1), .long (gj x3)] M (.inr (some (.long (gj r)))) M (gRL r) := by
  unfold fX6_combined at hf
  refine gMT.of hl9 (by decide +kernel) ((Nat.le_of_ble_eq_true rfl)) ?_
  intro p e s m below meth c hM hH ls hl
  have hM : gMC w p l s m ([.int (gi x0), .long (gj x1), .long (gj x3)] : List Value).toArray meth c cX6_combined 5 RX6 (some .long) := hM
  have hl : lv_has ls 5 [(0, .int (gi x0)), (1, .long (gj x1)), (3, .long (gj x3))] := hl
  refine lv_iload_n hM.fx.1 hM.fx.2.1 dX6_combined_0 rfl (lv_at hl 0 rfl) ?_
  refine lv_iconst (v := gi (4)) hM.fx.1 hM.fx.2.1 dX6_combined_1 rfl ?_
  refine r_icmp_ne (tgt := 9) hM.fx hr0 (gcR (k := 4) (by decide)) dX6_combined_2 (by decide) (fun h_1 => ?_) (fun h_1 => ?_)
  · have hf := gneg' h_1 hf
    refine lv_iload_n hM.fx.1 hM.fx.2.1 dX6_combined_9 rfl (lv_at hl 0 rfl) ?_
    refine lv_iconst (v := gi (5)) hM.fx.1 hM.fx.2.1 dX6_combined_10 rfl ?_
    refine r_icmp_ne (tgt := 20) hM.fx hr0 (gcR (k := 5) (by decide)) dX6_combined_11 (by decide) (fun h_2 => ?_) (fun h_2 => ?_)
    · have hf := gneg' h_2 hf
      refine lv_lload_n hM.fx.1 hM.fx.2.1 dX6_combined_20 rfl (lv_at hl 1 rfl) ?_
      refine lv_lload_n hM.fx.1 hM.fx.2.1 dX6_combined_21 rfl (lv_at hl 2 rfl) ?_
      refine r_lmul hM.fx dX6_combined_22 ?_
      obtain rfl := Option.some.inj hf
      exact r_lret hM hH (gwl_r _) ⟨(Nat.le_of_ble_eq_true rfl), (Nat.le_of_ble_eq_true rfl)⟩ dX6_combined_23
    · have hf := gpos h_2 hf
      refine lv_lload_n hM.fx.1 hM.fx.2.1 dX6_combined_14 rfl (lv_at hl 1 rfl) ?_
      refine lv_lload_n hM.fx.1 hM.fx.2.1 dX6_combined_15 rfl (lv_at hl 2 rfl) ?_
      refine r_lsub hM.fx dX6_combined_16 ?_
      refine lv_goto (tgt := 23) hM.fx.1 hM.fx.2.1 dX6_combined_17 (by decide) ?_
      obtain rfl := Option.some.inj hf
      exact r_lret hM hH (gwl_r _) ⟨(Nat.le_of_ble_eq_true rfl), (Nat.le_of_ble_eq_true rfl)⟩ dX6_combined_23
  · have hf := gpos h_1 hf
    refine lv_lload_n hM.fx.1 hM.fx.2.1 dX6_combined_5 rfl (lv_at hl 1 rfl) ?_
    refine lv_lload_n hM.fx.1 hM.fx.2.1 dX6_combined_6 rfl (lv_at hl 2 rfl) ?_
    refine r_ladd hM.fx dX6_combined_7 ?_
    obtain rfl := Option.some.inj hf
    exact r_lret hM hH (gwl_r _) ⟨(Nat.le_of_ble_eq_true rfl), (Nat.le_of_ble_eq_true rfl)⟩ dX6_combined_8
def fX6_faultOf_111 (g : Nat → Nat)  (x2 : Int) (a3 : Nat) (M : gMem) : Option Int :=
  (fX3_numberAt g a3 1 M).bind fun x_2 => (fX3_numberAt g a3 0 M).bind fun x_4 => (fX6_combined g x2 x_2 x_4).bind fun x_6 => if glcmp x_6 (-999999) < 0 then (some 6) else (if glcmp x_6 999999 ≤ 0 then (some 0) else (some 6))
set_option maxHeartbeats 4000000 in
set_option maxRecDepth 100000 in
theorem wX6_faultOf_111 {w : gW} {n : Nat} {Rm : Nat → Nat → Nat} {g : Nat → Nat} (hLC : gLC g n Rm) {p : Program} {l : Launch} {e : Env} {s : State} {m : MethodId} {args : Array Value} {below : List Frame} {meth : Method} {c : Code} (hM : gMC w p l s m args meth c cX6_faultOf 6 RX6 (some .int))  : ∀ (x2 : Int) (a3 : Nat) (M : gMem) (r : Int) (hr2 : gRI x2) (hg3 : g a3 = 4) (hf : fX6_faultOf_111 g x2 a3 M = some r) (H : Heap) (locs : List Loc) (ls : Array Slot) (hH : gH w n Rm M s H locs) (hl : lv_has ls 6 [(2, .int (gi x2)), (3, .ref (w.1 + a3))]), W p l e { frames := 3, cells := 0, slots := 0, locals := 103 } s m args below meth c H locs 0 0 (gQ w n Rm below args s 0 0 (.inr (some (.int (gi r)))) M (gRI r)) (F0 m 111 ls []) := by
  intro x2 a3 M r hr2 hg3 hf H locs ls hH hl
  unfold fX6_faultOf_111 at hf
  refine lv_iload_n hM.fx.1 hM.fx.2.1 dX6_faultOf_111 rfl (lv_at hl 0 rfl) ?_
  refine lv_aload_n hM.fx.1 hM.fx.2.1 dX6_faultOf_112 rfl (lv_at hl 1 rfl) ?_
  refine lv_iconst (v := gi (1)) hM.fx.1 hM.fx.2.1 dX6_faultOf_113 rfl ?_
  obtain ⟨x_2, ex_2, hf⟩ := gbd hf
  refine r_go1 hH rfl (r_runV (As := [.int (gi 1)]) hM hH cv_X6_125 (mX3_numberAt hLC hM.ns hg3 (gcR (k := 1) (by decide)) ex_2) (hLC.in hg3 (by decide)) (by decide) rfl rfl rfl hl.1 rfl (Nat.le_of_ble_eq_true rfl) ⟨(Nat.le_of_ble_eq_true rfl), (Nat.le_of_ble_eq_true rfl)⟩ ⟨(Nat.le_of_ble_eq_true rfl), (Nat.le_of_ble_eq_true rfl)⟩ dX6_faultOf_114) (fun hp_1 H locs hH => ?_)
  refine r_i2l hM.fx hp_1 dX6_faultOf_117 ?_
  refine lv_aload_n hM.fx.1 hM.fx.2.1 dX6_faultOf_118 rfl (lv_at hl 1 rfl) ?_
  refine lv_iconst (v := gi (0)) hM.fx.1 hM.fx.2.1 dX6_faultOf_119 rfl ?_
  obtain ⟨x_4, ex_4, hf⟩ := gbd hf
  refine r_go1 hH rfl (r_runV (As := [.int (gi 0)]) hM hH cv_X6_125 (mX3_numberAt hLC hM.ns hg3 (gcR (k := 0) (by decide)) ex_4) (hLC.in hg3 (by decide)) (by decide) rfl rfl rfl hl.1 rfl (Nat.le_of_ble_eq_true rfl) ⟨(Nat.le_of_ble_eq_true rfl), (Nat.le_of_ble_eq_true rfl)⟩ ⟨(Nat.le_of_ble_eq_true rfl), (Nat.le_of_ble_eq_true rfl)⟩ dX6_faultOf_120) (fun hp_3 H locs hH => ?_)
  refine r_i2l hM.fx hp_3 dX6_faultOf_123 ?_
  obtain ⟨x_6, ex_6, hf⟩ := gbd hf
  refine r_go1 hH rfl (r_runS (As := [.int (gi x2), .long (gj x_2), .long (gj x_4)]) hM hH cs_X6_128 (mX6_combined hLC hM.ns hr2 (gRI_L hp_1) (gRI_L hp_3) ex_6) rfl hl.1 rfl (Nat.le_of_ble_eq_true rfl) ⟨(Nat.le_of_ble_eq_true rfl), (Nat.le_of_ble_eq_true rfl)⟩ ⟨(Nat.le_of_ble_eq_true rfl), (Nat.le_of_ble_eq_true rfl)⟩ dX6_faultOf_124) (fun hp_5 H locs hH => ?_)
  refine lv_lstore (lv' := [(4, .long (gj x_6)), (2, .int (gi x2)), (3, .ref (w.1 + a3))]) hM.fx.1 hM.fx.2.1 dX6_faultOf_127 hl (by decide) rfl (fun ls hl => ?_)
  refine lv_lload hM.fx.1 hM.fx.2.1 dX6_faultOf_129 (lv_at hl 0 rfl) ?_
  refine r_ldc2 (x := -999999) hM.fx gw_775 (by decide) dX6_faultOf_131 ?_
  refine r_lcmp hM.fx hp_5 (by unfold gRL; omega) dX6_faultOf_134 ?_
  refine r_if_lt (tgt := 147) hM.fx (glcmp_r _ _) dX6_faultOf_135 (by decide) (fun h_7 => ?_) (fun h_7 => ?_)
  · have hf := gpos h_7 hf
    refine lv_bipush (v := gi (6)) hM.fx.1 hM.fx.2.1 dX6_faultOf_147 (by decide) ?_
    refine lv_goto (tgt := 153) hM.fx.1 hM.fx.2.1 dX6_faultOf_149 (by decide) ?_
    obtain rfl := Option.some.inj hf
    exact r_iret hM hH (gcR (k := 6) (by decide)) ⟨(Nat.le_of_ble_eq_true rfl), (Nat.le_of_ble_eq_true rfl)⟩ dX6_faultOf_153
  · have hf := gneg' h_7 hf
    refine lv_lload hM.fx.1 hM.fx.2.1 dX6_faultOf_138 (lv_at hl 0 rfl) ?_
    refine r_ldc2 (x := 999999) hM.fx gw_776 (by decide) dX6_faultOf_140 ?_
    refine r_lcmp hM.fx hp_5 (by unfold gRL; omega) dX6_faultOf_143 ?_
    refine r_if_le (tgt := 152) hM.fx (glcmp_r _ _) dX6_faultOf_144 (by decide) (fun h_8 => ?_) (fun h_8 => ?_)
    · have hf := gpos h_8 hf
      refine lv_iconst (v := gi (0)) hM.fx.1 hM.fx.2.1 dX6_faultOf_152 rfl ?_
      obtain rfl := Option.some.inj hf
      exact r_iret hM hH (gcR (k := 0) (by decide)) ⟨(Nat.le_of_ble_eq_true rfl), (Nat.le_of_ble_eq_true rfl)⟩ dX6_faultOf_153
    · have hf := gneg' h_8 hf
      refine lv_bipush (v := gi (6)) hM.fx.1 hM.fx.2.1 dX6_faultOf_147 (by decide) ?_
      refine lv_goto (tgt := 153) hM.fx.1 hM.fx.2.1 dX6_faultOf_149 (by decide) ?_
      obtain rfl := Option.some.inj hf
      exact r_iret hM hH (gcR (k := 6) (by decide)) ⟨(Nat.le_of_ble_eq_true rfl), (Nat.le_of_ble_eq_true rfl)⟩ dX6_faultOf_153
def fX6_faultOf_95 (g : Nat → Nat)  (x2 : Int) (a3 : Nat) (M : gMem) : Option Int :=
  if x2 = 4 then (fX6_faultOf_111 g x2 a3 M) else (if x2 = 5 then (fX6_faultOf_111 g x2 a3 M) else (if x2 = 6 then (fX6_faultOf_111 g x2 a3 M) else (some 0)))
set_option maxHeartbeats 4000000 in
set_option maxRecDepth 100000 in
theorem wX6_faultOf_95 {w : gW} {n : Nat} {Rm : Nat → Nat → Nat} {g : Nat → Nat} (hLC : gLC g n Rm) {p : Program} {l : Launch} {e : Env} {s : State} {m : MethodId} {args : Array Value} {below : List Frame} {meth : Method} {c : Code} (hM : gMC w p l s m args meth c cX6_faultOf 6 RX6 (some .int))  : ∀ (x2 : Int) (a3 : Nat) (M : gMem) (r : Int) (hr2 : gRI x2) (hg3 : g a3 = 4) (hf : fX6_faultOf_95 g x2 a3 M = some r) (H : Heap) (locs : List Loc) (ls : Array Slot) (hH : gH w n Rm M s H locs) (hl : lv_has ls 6 [(2, .int (gi x2)), (3, .ref (w.1 + a3))]), W p l e { frames := 3, cells := 0, slots := 0, locals := 103 } s m args below meth c H locs 0 0 (gQ w n Rm below args s 0 0 (.inr (some (.int (gi r)))) M (gRI r)) (F0 m 95 ls []) := by
  intro x2 a3 M r hr2 hg3 hf H locs ls hH hl
  unfold fX6_faultOf_95 at hf
  refine lv_iload_n hM.fx.1 hM.fx.2.1 dX6_faultOf_95 rfl (lv_at hl 0 rfl) ?_
  refine lv_iconst (v := gi (4)) hM.fx.1 hM.fx.2.1 dX6_faultOf_96 rfl ?_
  refine r_icmp_eq (tgt := 111) hM.fx hr2 (gcR (k := 4) (by decide)) dX6_faultOf_97 (by decide) (fun h_1 => ?_) (fun h_1 => ?_)
  · have hf := gpos h_1 hf
    exact wX6_faultOf_111 hLC hM   _ _ _ _ hr2 hg3 hf _ _ _ hH hl
  · have hf := gneg' h_1 hf
    refine lv_iload_n hM.fx.1 hM.fx.2.1 dX6_faultOf_100 rfl (lv_at hl 0 rfl) ?_
    refine lv_iconst (v := gi (5)) hM.fx.1 hM.fx.2.1 dX6_faultOf_101 rfl ?_
    refine r_icmp_eq (tgt := 111) hM.fx hr2 (gcR (k := 5) (by decide)) dX6_faultOf_102 (by decide) (fun h_2 => ?_) (fun h_2 => ?_)
    · have hf := gpos h_2 hf
      exact wX6_faultOf_111 hLC hM   _ _ _ _ hr2 hg3 hf _ _ _ hH hl
    · have hf := gneg' h_2 hf
      refine lv_iload_n hM.fx.1 hM.fx.2.1 dX6_faultOf_105 rfl (lv_at hl 0 rfl) ?_
      refine lv_bipush (v := gi (6)) hM.fx.1 hM.fx.2.1 dX6_faultOf_106 (by decide) ?_
      refine r_icmp_ne (tgt := 154) hM.fx hr2 (gcR (k := 6) (by decide)) dX6_faultOf_108 (by decide) (fun h_3 => ?_) (fun h_3 => ?_)
      · have hf := gneg' h_3 hf
        refine lv_iconst (v := gi (0)) hM.fx.1 hM.fx.2.1 dX6_faultOf_154 rfl ?_
        obtain rfl := Option.some.inj hf
        exact r_iret hM hH (gcR (k := 0) (by decide)) ⟨(Nat.le_of_ble_eq_true rfl), (Nat.le_of_ble_eq_true rfl)⟩ dX6_faultOf_155
      · have hf := gpos h_3 hf
        exact wX6_faultOf_111 hLC hM   _ _ _ _ hr2 hg3 hf _ _ _ hH hl
def fX6_faultOf_86 (g : Nat → Nat)  (x2 : Int) (a3 : Nat) (M : gMem) : Option Int :=
  (fX3_isFull g a3 M).bind fun x_2 => if x_2 = 0 then (fX6_faultOf_95 g x2 a3 M) else (some 5)
set_option maxHeartbeats 4000000 in
set_option maxRecDepth 100000 in
theorem wX6_faultOf_86 {w : gW} {n : Nat} {Rm : Nat → Nat → Nat} {g : Nat → Nat} (hLC : gLC g n Rm) {p : Program} {l : Launch} {e : Env} {s : State} {m : MethodId} {args : Array Value} {below : List Frame} {meth : Method} {c : Code} (hM : gMC w p l s m args meth c cX6_faultOf 6 RX6 (some .int))  : ∀ (x2 : Int) (a3 : Nat) (M : gMem) (r : Int) (hr2 : gRI x2) (hg3 : g a3 = 4) (hf : fX6_faultOf_86 g x2 a3 M = some r) (H : Heap) (locs : List Loc) (ls : Array Slot) (hH : gH w n Rm M s H locs) (hl : lv_has ls 6 [(2, .int (gi x2)), (3, .ref (w.1 + a3))]), W p l e { frames := 3, cells := 0, slots := 0, locals := 103 } s m args below meth c H locs 0 0 (gQ w n Rm below args s 0 0 (.inr (some (.int (gi r)))) M (gRI r)) (F0 m 86 ls []) := by
  intro x2 a3 M r hr2 hg3 hf H locs ls hH hl
  unfold fX6_faultOf_86 at hf
  refine lv_aload_n hM.fx.1 hM.fx.2.1 dX6_faultOf_86 rfl (lv_at hl 1 rfl) ?_
  obtain ⟨x_2, ex_2, hf⟩ := gbd hf
  refine r_go1 hH rfl (r_runV (As := []) hM hH cv_X6_121 (mX3_isFull hLC hM.ns hg3 ex_2) (hLC.in hg3 (by decide)) (by decide) rfl rfl rfl hl.1 rfl (Nat.le_of_ble_eq_true rfl) ⟨(Nat.le_of_ble_eq_true rfl), (Nat.le_of_ble_eq_true rfl)⟩ ⟨(Nat.le_of_ble_eq_true rfl), (Nat.le_of_ble_eq_true rfl)⟩ dX6_faultOf_87) (fun hp_1 H locs hH => ?_)
  refine r_if_eq (tgt := 95) hM.fx (gz_r hp_1) dX6_faultOf_90 (by decide) (fun h_3 => ?_) (fun h_3 => ?_)
  · have hf := gpos h_3 hf
    exact wX6_faultOf_95 hLC hM   _ _ _ _ hr2 hg3 hf _ _ _ hH hl
  · have hf := gneg' h_3 hf
    refine lv_iconst (v := gi (5)) hM.fx.1 hM.fx.2.1 dX6_faultOf_93 rfl ?_
    obtain rfl := Option.some.inj hf
    exact r_iret hM hH (gcR (k := 5) (by decide)) ⟨(Nat.le_of_ble_eq_true rfl), (Nat.le_of_ble_eq_true rfl)⟩ dX6_faultOf_94
def fX6_faultOf (g : Nat → Nat) (a0 : Nat) (a1 : Nat) (M : gMem) : Option Int :=
  (fX4_kindAt g a1 (M a1 7) M).bind fun x_3 => if x_3 = (-1) then (some 0) else (if x_3 = 11 then (some 0) else (if x_3 = 13 then (some 0) else ((fX6_isMove g x_3).bind fun x_8 => if x_8 = 0 then ((fX0_pileAt g a0 (M a1 10) M).bind fun a_12 => if a_12 = 0 then (some 1) else ((fX6_numbersNeeded g x_3).bind fun x_16 => if x_16 ≤ M a_12 1 then (if x_3 = 0 then (fX6_faultOf_86 g x_3 a_12 M) else (if x_3 = 2 then (fX6_faultOf_86 g x_3 a_12 M) else (fX6_faultOf_95 g x_3 a_12 M))) else (some 4))) else ((fX4_operandAt g a1 (M a1 7) M).bind fun x_22 => (fX6_moveFault g a1 x_3 x_22 M).bind fun x_24 => some x_24))))
set_option maxHeartbeats 4000000 in
set_option maxRecDepth 100000 in
theorem mX6_faultOf {w : gW} {n : Nat} {Rm : Nat → Nat → Nat} {g : Nat → Nat} (hLC : gLC g n Rm) {l : Launch} (hl9 : l.stackTraces = false) {a0 : Nat} {a1 : Nat} {M : gMem} {r : Int} (hg0 : g a0 = 1) (hg1 : g a1 = 5) (hf : fX6_faultOf g a0 a1 M = some r) : gMT w n Rm l yX6_faultOf cX6_faultOf 6 (some .int) 3 103 0 0 [.ref (w.1 + a0), .ref (w.1 + a1)] M (.inr (some (.int (gi r)))) M (gRI r) := by
  unfold fX6_faultOf at hf
  refine gMT.of hl9 (by decide +kernel) ((Nat.le_of_ble_eq_true rfl)) ?_
  intro p e s m below meth c hM hH ls hl
  have hM : gMC w p l s m ([.ref (w.1 + a0), .ref (w.1 + a1)] : List Value).toArray meth c cX6_faultOf 6 RX6 (some .int) := hM
  have hl : lv_has ls 6 [(0, .ref (w.1 + a0)), (1, .ref (w.1 + a1))] := hl
  refine lv_aload_n hM.fx.1 hM.fx.2.1 dX6_faultOf_0 rfl (lv_at hl 1 rfl) ?_
  refine lv_aload_n hM.fx.1 hM.fx.2.1 dX6_faultOf_1 rfl (lv_at hl 1 rfl) ?_
  refine r_getI hM.fx hM.kf hH fl_X6_38 (hLC.in hg1 (by decide)) dX6_faultOf_2 ?_
  have hr_1 := hH.2.2.i (hLC.in hg1 (by decide)).2.2 (by decide : glg 5 7 = false)
  obtain ⟨x_3, ex_3, hf⟩ := gbd hf
  refine r_go1 hH rfl (r_runV (As := [.int (gi (M a1 7))]) hM hH cv_X6_41 (mX4_kindAt hLC hM.ns hg1 hr_1 ex_3) (hLC.in hg1 (by decide)) (by decide) rfl rfl rfl hl.1 rfl (Nat.le_of_ble_eq_true rfl) ⟨(Nat.le_of_ble_eq_true rfl), (Nat.le_of_ble_eq_true rfl)⟩ ⟨(Nat.le_of_ble_eq_true rfl), (Nat.le_of_ble_eq_true rfl)⟩ dX6_faultOf_5) (fun hp_2 H locs hH => ?_)
  refine lv_istore_n (lv' := [(2, .int (gi x_3)), (0, .ref (w.1 + a0)), (1, .ref (w.1 + a1))]) hM.fx.1 hM.fx.2.1 dX6_faultOf_8 rfl hl (by decide) rfl (fun ls hl => ?_)
  refine lv_iload_n hM.fx.1 hM.fx.2.1 dX6_faultOf_9 rfl (lv_at hl 0 rfl) ?_
  refine lv_iconst (v := gi (-1)) hM.fx.1 hM.fx.2.1 dX6_faultOf_10 rfl ?_
  refine r_icmp_eq (tgt := 26) hM.fx hp_2 (gcR (k := -1) (by decide)) dX6_faultOf_11 (by decide) (fun h_4 => ?_) (fun h_4 => ?_)
  · have hf := gpos h_4 hf
    refine lv_iconst (v := gi (0)) hM.fx.1 hM.fx.2.1 dX6_faultOf_26 rfl ?_
    obtain rfl := Option.some.inj hf
    exact r_iret hM hH (gcR (k := 0) (by decide)) ⟨(Nat.le_of_ble_eq_true rfl), (Nat.le_of_ble_eq_true rfl)⟩ dX6_faultOf_27
  · have hf := gneg' h_4 hf
    refine lv_iload_n hM.fx.1 hM.fx.2.1 dX6_faultOf_14 rfl (lv_at hl 0 rfl) ?_
    refine lv_bipush (v := gi (11)) hM.fx.1 hM.fx.2.1 dX6_faultOf_15 (by decide) ?_
    refine r_icmp_eq (tgt := 26) hM.fx hp_2 (gcR (k := 11) (by decide)) dX6_faultOf_17 (by decide) (fun h_5 => ?_) (fun h_5 => ?_)
    · have hf := gpos h_5 hf
      refine lv_iconst (v := gi (0)) hM.fx.1 hM.fx.2.1 dX6_faultOf_26 rfl ?_
      obtain rfl := Option.some.inj hf
      exact r_iret hM hH (gcR (k := 0) (by decide)) ⟨(Nat.le_of_ble_eq_true rfl), (Nat.le_of_ble_eq_true rfl)⟩ dX6_faultOf_27
    · have hf := gneg' h_5 hf
      refine lv_iload_n hM.fx.1 hM.fx.2.1 dX6_faultOf_20 rfl (lv_at hl 0 rfl) ?_
      refine lv_bipush (v := gi (13)) hM.fx.1 hM.fx.2.1 dX6_faultOf_21 (by decide) ?_
      refine r_icmp_ne (tgt := 28) hM.fx hp_2 (gcR (k := 13) (by decide)) dX6_faultOf_23 (by decide) (fun h_6 => ?_) (fun h_6 => ?_)
      · have hf := gneg' h_6 hf
        refine lv_iload_n hM.fx.1 hM.fx.2.1 dX6_faultOf_28 rfl (lv_at hl 0 rfl) ?_
        obtain ⟨x_8, ex_8, hf⟩ := gbd hf
        refine r_go1 hH rfl (r_runS (As := [.int (gi x_3)]) hM hH cs_X6_45 (mX6_isMove hLC hM.ns hp_2 ex_8) rfl hl.1 rfl (Nat.le_of_ble_eq_true rfl) ⟨(Nat.le_of_ble_eq_true rfl), (Nat.le_of_ble_eq_true rfl)⟩ ⟨(Nat.le_of_ble_eq_true rfl), (Nat.le_of_ble_eq_true rfl)⟩ dX6_faultOf_29) (fun hp_7 H locs hH => ?_)
        refine r_if_eq (tgt := 49) hM.fx (gz_r hp_7) dX6_faultOf_32 (by decide) (fun h_9 => ?_) (fun h_9 => ?_)
        · have hf := gpos h_9 hf
          refine lv_aload_n hM.fx.1 hM.fx.2.1 dX6_faultOf_49 rfl (lv_at hl 1 rfl) ?_
          refine lv_aload_n hM.fx.1 hM.fx.2.1 dX6_faultOf_50 rfl (lv_at hl 2 rfl) ?_
          refine r_getI hM.fx hM.kf hH fl_X6_103 (hLC.in hg1 (by decide)) dX6_faultOf_51 ?_
          have hr_10 := hH.2.2.i (hLC.in hg1 (by decide)).2.2 (by decide : glg 5 10 = false)
          obtain ⟨a_12, ea_12, hf⟩ := gbd hf
          refine r_go1 hH rfl (r_runV (As := [.int (gi (M a1 10))]) hM hH cv_X6_109 (mX0_pileAt hLC hM.ns hg0 hr_10 ea_12) (hLC.in hg0 (by decide)) (by decide) rfl rfl rfl hl.1 rfl (Nat.le_of_ble_eq_true rfl) ⟨(Nat.le_of_ble_eq_true rfl), (Nat.le_of_ble_eq_true rfl)⟩ ⟨(Nat.le_of_ble_eq_true rfl), (Nat.le_of_ble_eq_true rfl)⟩ dX6_faultOf_54) (fun hp_11 H locs hH => ?_)
          refine r_astore_nV (lv' := [(3, gvR w a_12), (2, .int (gi x_3)), (0, .ref (w.1 + a0)), (1, .ref (w.1 + a1))]) hM.fx dX6_faultOf_57 rfl hl (by decide) rfl (fun ls hl => ?_)
          refine r_aload_nV hM.fx dX6_faultOf_58 rfl (lv_at hl 0 rfl) ?_
          refine r_ifnonnull (tgt := 64) hM.fx dX6_faultOf_59 (by decide) (fun h_13 => ?_) (fun h_13 => ?_)
          · have hf := gneg' h_13 hf
            rw [gvR_nn h_13] at hl
            refine lv_aload_n hM.fx.1 hM.fx.2.1 dX6_faultOf_64 rfl (lv_at hl 0 rfl) ?_
            refine r_getI hM.fx hM.kf hH fl_X6_113 (hLC.in (hp_11 h_13) (by decide)) dX6_faultOf_65 ?_
            have hr_14 := hH.2.2.i (hLC.in (hp_11 h_13) (by decide)).2.2 (by decide : glg 4 1 = false)
            refine lv_iload_n hM.fx.1 hM.fx.2.1 dX6_faultOf_68 rfl (lv_at hl 1 rfl) ?_
            obtain ⟨x_16, ex_16, hf⟩ := gbd hf
            refine r_go1 hH rfl (r_runS (As := [.int (gi x_3)]) hM hH cs_X6_118 (mX6_numbersNeeded hLC hM.ns hp_2 ex_16) rfl hl.1 rfl (Nat.le_of_ble_eq_true rfl) ⟨(Nat.le_of_ble_eq_true rfl), (Nat.le_of_ble_eq_true rfl)⟩ ⟨(Nat.le_of_ble_eq_true rfl), (Nat.le_of_ble_eq_true rfl)⟩ dX6_faultOf_69) (fun hp_15 H locs hH => ?_)
            refine r_icmp_ge (tgt := 77) hM.fx hr_14 hp_15 dX6_faultOf_72 (by decide) (fun h_17 => ?_) (fun h_17 => ?_)
            · have hf := gpos h_17 hf
              refine lv_iload_n hM.fx.1 hM.fx.2.1 dX6_faultOf_77 rfl (lv_at hl 1 rfl) ?_
              refine r_if_eq (tgt := 86) hM.fx hp_2 dX6_faultOf_78 (by decide) (fun h_18 => ?_) (fun h_18 => ?_)
              · have hf := gpos h_18 hf
                exact wX6_faultOf_86 hLC hM   _ _ _ _ hp_2 (hp_11 h_13) hf _ _ _ hH (lv_sub hl [1, 0] rfl)
              · have hf := gneg' h_18 hf
                refine lv_iload_n hM.fx.1 hM.fx.2.1 dX6_faultOf_81 rfl (lv_at hl 1 rfl) ?_
                refine lv_iconst (v := gi (2)) hM.fx.1 hM.fx.2.1 dX6_faultOf_82 rfl ?_
                refine r_icmp_ne (tgt := 95) hM.fx hp_2 (gcR (k := 2) (by decide)) dX6_faultOf_83 (by decide) (fun h_19 => ?_) (fun h_19 => ?_)
                · have hf := gneg' h_19 hf
                  exact wX6_faultOf_95 hLC hM   _ _ _ _ hp_2 (hp_11 h_13) hf _ _ _ hH (lv_sub hl [1, 0] rfl)
                · have hf := gpos h_19 hf
                  exact wX6_faultOf_86 hLC hM   _ _ _ _ hp_2 (hp_11 h_13) hf _ _ _ hH (lv_sub hl [1, 0] rfl)
            · have hf := gneg' h_17 hf
              refine lv_iconst (v := gi (4)) hM.fx.1 hM.fx.2.1 dX6_faultOf_75 rfl ?_
              obtain rfl := Option.some.inj hf
              exact r_iret hM hH (gcR (k := 4) (by decide)) ⟨(Nat.le_of_ble_eq_true rfl), (Nat.le_of_ble_eq_true rfl)⟩ dX6_faultOf_76
          · have hf := gpos h_13 hf
            refine lv_iconst (v := gi (1)) hM.fx.1 hM.fx.2.1 dX6_faultOf_62 rfl ?_
            obtain rfl := Option.some.inj hf
            exact r_iret hM hH (gcR (k := 1) (by decide)) ⟨(Nat.le_of_ble_eq_true rfl), (Nat.le_of_ble_eq_true rfl)⟩ dX6_faultOf_63
        · have hf := gneg' h_9 hf
          refine lv_aload_n hM.fx.1 hM.fx.2.1 dX6_faultOf_35 rfl (lv_at hl 2 rfl) ?_
          refine lv_iload_n hM.fx.1 hM.fx.2.1 dX6_faultOf_36 rfl (lv_at hl 0 rfl) ?_
          refine lv_aload_n hM.fx.1 hM.fx.2.1 dX6_faultOf_37 rfl (lv_at hl 2 rfl) ?_
          refine lv_aload_n hM.fx.1 hM.fx.2.1 dX6_faultOf_38 rfl (lv_at hl 2 rfl) ?_
          refine r_getI hM.fx hM.kf hH fl_X6_38 (hLC.in hg1 (by decide)) dX6_faultOf_39 ?_
          have hr_20 := hH.2.2.i (hLC.in hg1 (by decide)).2.2 (by decide : glg 5 7 = false)
          obtain ⟨x_22, ex_22, hf⟩ := gbd hf
          refine r_go1 hH rfl (r_runV (As := [.int (gi (M a1 7))]) hM hH cv_X6_49 (mX4_operandAt hLC hM.ns hg1 hr_20 ex_22) (hLC.in hg1 (by decide)) (by decide) rfl rfl rfl hl.1 rfl (Nat.le_of_ble_eq_true rfl) ⟨(Nat.le_of_ble_eq_true rfl), (Nat.le_of_ble_eq_true rfl)⟩ ⟨(Nat.le_of_ble_eq_true rfl), (Nat.le_of_ble_eq_true rfl)⟩ dX6_faultOf_42) (fun hp_21 H locs hH => ?_)
          obtain ⟨x_24, ex_24, hf⟩ := gbd hf
          refine r_go1 hH rfl (r_runS (As := [.ref (w.1 + a1), .int (gi x_3), .int (gi x_22)]) hM hH cs_X6_52 (mX6_moveFault hLC hM.ns hg1 hp_2 hp_21 ex_24) rfl hl.1 rfl (Nat.le_of_ble_eq_true rfl) ⟨(Nat.le_of_ble_eq_true rfl), (Nat.le_of_ble_eq_true rfl)⟩ ⟨(Nat.le_of_ble_eq_true rfl), (Nat.le_of_ble_eq_true rfl)⟩ dX6_faultOf_45) (fun hp_23 H locs hH => ?_)
          obtain rfl := Option.some.inj hf
          exact r_iret hM hH hp_23 ⟨(Nat.le_of_ble_eq_true rfl), (Nat.le_of_ble_eq_true rfl)⟩ dX6_faultOf_48
      · have hf := gpos h_6 hf
        refine lv_iconst (v := gi (0)) hM.fx.1 hM.fx.2.1 dX6_faultOf_26 rfl ?_
        obtain rfl := Option.some.inj hf
        exact r_iret hM hH (gcR (k := 0) (by decide)) ⟨(Nat.le_of_ble_eq_true rfl), (Nat.le_of_ble_eq_true rfl)⟩ dX6_faultOf_27
def fX6_moveStacks_62 (g : Nat → Nat)  (a0 : Nat) (x5 : Int) (M : gMem) : Option gMem :=
  (fX0_pileAt g a0 x5 M).bind fun a_2 => if a_2 = 0 then (some M) else (gst (gup M a_2 5 (gwi (M a_2 5 + 1))) fun M_5 => some M_5)
set_option maxHeartbeats 4000000 in
set_option maxRecDepth 100000 in
theorem wX6_moveStacks_62 {w : gW} {n : Nat} {Rm : Nat → Nat → Nat} {g : Nat → Nat} (hLC : gLC g n Rm) {p : Program} {l : Launch} {e : Env} {s : State} {m : MethodId} {args : Array Value} {below : List Frame} {meth : Method} {c : Code} (hM : gMC w p l s m args meth c cX6_moveStacks 8 RX6 none)  : ∀ (a0 : Nat) (x5 : Int) (M : gMem) (r : gMem) (hg0 : g a0 = 1) (hr5 : gRI x5) (hf : fX6_moveStacks_62 g a0 x5 M = some r) (H : Heap) (locs : List Loc) (ls : Array Slot) (hH : gH w n Rm M s H locs) (hl : lv_has ls 8 [(0, .ref (w.1 + a0)), (5, .int (gi x5))]), W p l e { frames := 2, cells := 0, slots := 0, locals := 82 } s m args below meth c H locs 0 0 (gQ w n Rm below args s 0 0 (.inr none) r True) (F0 m 62 ls []) := by
  intro a0 x5 M r hg0 hr5 hf H locs ls hH hl
  unfold fX6_moveStacks_62 at hf
  refine lv_aload_n hM.fx.1 hM.fx.2.1 dX6_moveStacks_62 rfl (lv_at hl 0 rfl) ?_
  refine lv_iload hM.fx.1 hM.fx.2.1 dX6_moveStacks_63 (lv_at hl 1 rfl) ?_
  obtain ⟨a_2, ea_2, hf⟩ := gbd hf
  refine r_go1 hH rfl (r_runV (As := [.int (gi x5)]) hM hH cv_X6_109 (mX0_pileAt hLC hM.ns hg0 hr5 ea_2) (hLC.in hg0 (by decide)) (by decide) rfl rfl rfl hl.1 rfl (Nat.le_of_ble_eq_true rfl) ⟨(Nat.le_of_ble_eq_true rfl), (Nat.le_of_ble_eq_true rfl)⟩ ⟨(Nat.le_of_ble_eq_true rfl), (Nat.le_of_ble_eq_true rfl)⟩ dX6_moveStacks_65) (fun hp_1 H locs hH => ?_)
  refine r_astoreV (lv' := [(7, gvR w a_2), (0, .ref (w.1 + a0)), (5, .int (gi x5))]) hM.fx dX6_moveStacks_68 hl (by decide) rfl (fun ls hl => ?_)
  refine r_aloadV hM.fx dX6_moveStacks_70 (lv_at hl 0 rfl) ?_
  refine r_ifnull (tgt := 86) hM.fx dX6_moveStacks_72 (by decide) (fun h_3 => ?_) (fun h_3 => ?_)
  · have hf := gpos h_3 hf
    obtain rfl := Option.some.inj hf
    exact r_vret hM hH trivial ⟨(Nat.le_of_ble_eq_true rfl), (Nat.le_of_ble_eq_true rfl)⟩ dX6_moveStacks_86
  · have hf := gneg' h_3 hf
    rw [gvR_nn h_3] at hl
    refine lv_aload hM.fx.1 hM.fx.2.1 dX6_moveStacks_75 (lv_at hl 0 rfl) ?_
    refine lv_dup hM.fx.1 hM.fx.2.1 dX6_moveStacks_77 rfl ?_
    refine r_getI hM.fx hM.kf hH fl_X6_151 (hLC.in (hp_1 h_3) (by decide)) dX6_moveStacks_78 ?_
    have hr_4 := hH.2.2.i (hLC.in (hp_1 h_3) (by decide)).2.2 (by decide : glg 4 5 = false)
    refine lv_iconst (v := gi (1)) hM.fx.1 hM.fx.2.1 dX6_moveStacks_81 rfl ?_
    refine r_iadd hM.fx dX6_moveStacks_82 ?_
    refine r_putI hM.fx hM.kf hH fp_X6_151 (hLC.in (hp_1 h_3) (by decide)) (gwi_r _) dX6_moveStacks_83 (fun H locs hH => ?_)
    obtain ⟨M_5, eM_5, hf⟩ := gst_s hf
    rw [← eM_5] at hH
    obtain rfl := Option.some.inj hf
    exact r_vret hM hH trivial ⟨(Nat.le_of_ble_eq_true rfl), (Nat.le_of_ble_eq_true rfl)⟩ dX6_moveStacks_86
def fX6_moveStacks (g : Nat → Nat) (a0 : Nat) (x1 : Int) (x2 : Int) (M : gMem) : Option gMem :=
  (fX0_procAt g a0 x1 M).bind fun a_2 => if a_2 = 0 then (some M) else (gst (M a_2 10) fun x_5 => (fX0_lyingOn g a0 x2 M).bind fun x_7 => (fX0_setInHand g a0 x1 x_7 M).bind fun M_9 => (fX0_setOnSlot g a0 x2 x_5 M_9).bind fun M_11 => (fX0_pileAt g a0 x_5 M_11).bind fun a_13 => if a_13 = 0 then (fX6_moveStacks_62 g a0 x_7 M_11) else (gst (gup M_11 a_13 5 (gwi (M_11 a_13 5 + 1))) fun M_16 => fX6_moveStacks_62 g a0 x_7 M_16))
set_option maxHeartbeats 4000000 in
set_option maxRecDepth 100000 in
theorem mX6_moveStacks {w : gW} {n : Nat} {Rm : Nat → Nat → Nat} {g : Nat → Nat} (hLC : gLC g n Rm) {l : Launch} (hl9 : l.stackTraces = false) {a0 : Nat} {x1 : Int} {x2 : Int} {M : gMem} {r : gMem} (hg0 : g a0 = 1) (hr1 : gRI x1) (hr2 : gRI x2) (hf : fX6_moveStacks g a0 x1 x2 M = some r) : gMT w n Rm l yX6_moveStacks cX6_moveStacks 8 none 2 82 0 0 [.ref (w.1 + a0), .int (gi x1), .int (gi x2)] M (.inr none) r True := by
  unfold fX6_moveStacks at hf
  refine gMT.of hl9 (by decide +kernel) ((Nat.le_of_ble_eq_true rfl)) ?_
  intro p e s m below meth c hM hH ls hl
  have hM : gMC w p l s m ([.ref (w.1 + a0), .int (gi x1), .int (gi x2)] : List Value).toArray meth c cX6_moveStacks 8 RX6 none := hM
  have hl : lv_has ls 8 [(0, .ref (w.1 + a0)), (1, .int (gi x1)), (2, .int (gi x2))] := hl
  refine lv_aload_n hM.fx.1 hM.fx.2.1 dX6_moveStacks_0 rfl (lv_at hl 0 rfl) ?_
  refine lv_iload_n hM.fx.1 hM.fx.2.1 dX6_moveStacks_1 rfl (lv_at hl 1 rfl) ?_
  obtain ⟨a_2, ea_2, hf⟩ := gbd hf
  refine r_go1 hH rfl (r_runV (As := [.int (gi x1)]) hM hH cv_X6_25 (mX0_procAt hLC hM.ns hg0 hr1 ea_2) (hLC.in hg0 (by decide)) (by decide) rfl rfl rfl hl.1 rfl (Nat.le_of_ble_eq_true rfl) ⟨(Nat.le_of_ble_eq_true rfl), (Nat.le_of_ble_eq_true rfl)⟩ ⟨(Nat.le_of_ble_eq_true rfl), (Nat.le_of_ble_eq_true rfl)⟩ dX6_moveStacks_2) (fun hp_1 H locs hH => ?_)
  refine r_astore_nV (lv' := [(3, gvR w a_2), (0, .ref (w.1 + a0)), (1, .int (gi x1)), (2, .int (gi x2))]) hM.fx dX6_moveStacks_5 rfl hl (by decide) rfl (fun ls hl => ?_)
  refine r_aload_nV hM.fx dX6_moveStacks_6 rfl (lv_at hl 0 rfl) ?_
  refine r_ifnonnull (tgt := 11) hM.fx dX6_moveStacks_7 (by decide) (fun h_3 => ?_) (fun h_3 => ?_)
  · have hf := gneg' h_3 hf
    rw [gvR_nn h_3] at hl
    refine lv_aload_n hM.fx.1 hM.fx.2.1 dX6_moveStacks_11 rfl (lv_at hl 0 rfl) ?_
    refine r_getI hM.fx hM.kf hH fl_X6_103 (hLC.in (hp_1 h_3) (by decide)) dX6_moveStacks_12 ?_
    have hr_4 := hH.2.2.i (hLC.in (hp_1 h_3) (by decide)).2.2 (by decide : glg 5 10 = false)
    obtain ⟨x_5, ex_5, hf⟩ := gst_s hf
    refine W.eq (g2 := F0 m _ ls (.int (gi x_5) :: _)) (by rw [ex_5]) ?_
    have hx_5 : gRI x_5 := by rw [ex_5]; exact hr_4
    refine lv_istore (lv' := [(4, .int (gi x_5)), (3, .ref (w.1 + a_2)), (0, .ref (w.1 + a0)), (1, .int (gi x1)), (2, .int (gi x2))]) hM.fx.1 hM.fx.2.1 dX6_moveStacks_15 hl (by decide) rfl (fun ls hl => ?_)
    refine lv_aload_n hM.fx.1 hM.fx.2.1 dX6_moveStacks_17 rfl (lv_at hl 2 rfl) ?_
    refine lv_iload_n hM.fx.1 hM.fx.2.1 dX6_moveStacks_18 rfl (lv_at hl 4 rfl) ?_
    obtain ⟨x_7, ex_7, hf⟩ := gbd hf
    refine r_go1 hH rfl (r_runV (As := [.int (gi x2)]) hM hH cv_X6_56 (mX0_lyingOn hLC hM.ns hg0 hr2 ex_7) (hLC.in hg0 (by decide)) (by decide) rfl rfl rfl hl.1 rfl (Nat.le_of_ble_eq_true rfl) ⟨(Nat.le_of_ble_eq_true rfl), (Nat.le_of_ble_eq_true rfl)⟩ ⟨(Nat.le_of_ble_eq_true rfl), (Nat.le_of_ble_eq_true rfl)⟩ dX6_moveStacks_19) (fun hp_6 H locs hH => ?_)
    refine lv_istore (lv' := [(5, .int (gi x_7)), (4, .int (gi x_5)), (3, .ref (w.1 + a_2)), (0, .ref (w.1 + a0)), (1, .int (gi x1)), (2, .int (gi x2))]) hM.fx.1 hM.fx.2.1 dX6_moveStacks_22 hl (by decide) rfl (fun ls hl => ?_)
    refine lv_aload_n hM.fx.1 hM.fx.2.1 dX6_moveStacks_24 rfl (lv_at hl 3 rfl) ?_
    refine lv_iload_n hM.fx.1 hM.fx.2.1 dX6_moveStacks_25 rfl (lv_at hl 4 rfl) ?_
    refine lv_iload hM.fx.1 hM.fx.2.1 dX6_moveStacks_26 (lv_at hl 0 rfl) ?_
    obtain ⟨M_9, eM_9, hf⟩ := gbd hf
    refine r_go0 hH rfl (r_runV (As := [.int (gi x1), .int (gi x_7)]) hM hH cv_X6_144 (mX0_setInHand hLC hM.ns hg0 hr1 hp_6 eM_9) (hLC.in hg0 (by decide)) (by decide) rfl rfl rfl hl.1 rfl (Nat.le_of_ble_eq_true rfl) ⟨(Nat.le_of_ble_eq_true rfl), (Nat.le_of_ble_eq_true rfl)⟩ ⟨(Nat.le_of_ble_eq_true rfl), (Nat.le_of_ble_eq_true rfl)⟩ dX6_moveStacks_28) (fun hp_8 H locs hH => ?_)
    refine lv_aload_n hM.fx.1 hM.fx.2.1 dX6_moveStacks_31 rfl (lv_at hl 3 rfl) ?_
    refine lv_iload_n hM.fx.1 hM.fx.2.1 dX6_moveStacks_32 rfl (lv_at hl 5 rfl) ?_
    refine lv_iload hM.fx.1 hM.fx.2.1 dX6_moveStacks_33 (lv_at hl 1 rfl) ?_
    obtain ⟨M_11, eM_11, hf⟩ := gbd hf
    refine r_go0 hH rfl (r_runV (As := [.int (gi x2), .int (gi x_5)]) hM hH cv_X6_148 (mX0_setOnSlot hLC hM.ns hg0 hr2 hx_5 eM_11) (hLC.in hg0 (by decide)) (by decide) rfl rfl rfl hl.1 rfl (Nat.le_of_ble_eq_true rfl) ⟨(Nat.le_of_ble_eq_true rfl), (Nat.le_of_ble_eq_true rfl)⟩ ⟨(Nat.le_of_ble_eq_true rfl), (Nat.le_of_ble_eq_true rfl)⟩ dX6_moveStacks_35) (fun hp_10 H locs hH => ?_)
    refine lv_aload_n hM.fx.1 hM.fx.2.1 dX6_moveStacks_38 rfl (lv_at hl 3 rfl) ?_
    refine lv_iload hM.fx.1 hM.fx.2.1 dX6_moveStacks_39 (lv_at hl 1 rfl) ?_
    obtain ⟨a_13, ea_13, hf⟩ := gbd hf
    refine r_go1 hH rfl (r_runV (As := [.int (gi x_5)]) hM hH cv_X6_109 (mX0_pileAt hLC hM.ns hg0 hx_5 ea_13) (hLC.in hg0 (by decide)) (by decide) rfl rfl rfl hl.1 rfl (Nat.le_of_ble_eq_true rfl) ⟨(Nat.le_of_ble_eq_true rfl), (Nat.le_of_ble_eq_true rfl)⟩ ⟨(Nat.le_of_ble_eq_true rfl), (Nat.le_of_ble_eq_true rfl)⟩ dX6_moveStacks_41) (fun hp_12 H locs hH => ?_)
    refine r_astoreV (lv' := [(6, gvR w a_13), (5, .int (gi x_7)), (4, .int (gi x_5)), (3, .ref (w.1 + a_2)), (0, .ref (w.1 + a0)), (1, .int (gi x1)), (2, .int (gi x2))]) hM.fx dX6_moveStacks_44 hl (by decide) rfl (fun ls hl => ?_)
    refine r_aloadV hM.fx dX6_moveStacks_46 (lv_at hl 0 rfl) ?_
    refine r_ifnull (tgt := 62) hM.fx dX6_moveStacks_48 (by decide) (fun h_14 => ?_) (fun h_14 => ?_)
    · have hf := gpos h_14 hf
      exact wX6_moveStacks_62 hLC hM   _ _ _ _ hg0 hp_6 hf _ _ _ hH (lv_sub hl [4, 1] rfl)
    · have hf := gneg' h_14 hf
      rw [gvR_nn h_14] at hl
      refine lv_aload hM.fx.1 hM.fx.2.1 dX6_moveStacks_51 (lv_at hl 0 rfl) ?_
      refine lv_dup hM.fx.1 hM.fx.2.1 dX6_moveStacks_53 rfl ?_
      refine r_getI hM.fx hM.kf hH fl_X6_151 (hLC.in (hp_12 h_14) (by decide)) dX6_moveStacks_54 ?_
      have hr_15 := hH.2.2.i (hLC.in (hp_12 h_14) (by decide)).2.2 (by decide : glg 4 5 = false)
      refine lv_iconst (v := gi (1)) hM.fx.1 hM.fx.2.1 dX6_moveStacks_57 rfl ?_
      refine r_iadd hM.fx dX6_moveStacks_58 ?_
      refine r_putI hM.fx hM.kf hH fp_X6_151 (hLC.in (hp_12 h_14) (by decide)) (gwi_r _) dX6_moveStacks_59 (fun H locs hH => ?_)
      obtain ⟨M_16, eM_16, hf⟩ := gst_s hf
      rw [← eM_16] at hH
      exact wX6_moveStacks_62 hLC hM   _ _ _ _ hg0 hp_6 hf _ _ _ hH (lv_sub hl [4, 1] rfl)
  · have hf := gpos h_3 hf
    obtain rfl := Option.some.inj hf
    exact r_vret hM hH trivial ⟨(Nat.le_of_ble_eq_true rfl), (Nat.le_of_ble_eq_true rfl)⟩ dX6_moveStacks_10
def fX6_work_176 (g : Nat → Nat)  (a1 : Nat) (M : gMem) : Option gMem :=
  (fX3_dropTop g a1 M).bind fun M_2 => some M_2
set_option maxHeartbeats 4000000 in
set_option maxRecDepth 100000 in
theorem wX6_work_176 {w : gW} {n : Nat} {Rm : Nat → Nat → Nat} {g : Nat → Nat} (hLC : gLC g n Rm) {p : Program} {l : Launch} {e : Env} {s : State} {m : MethodId} {args : Array Value} {below : List Frame} {meth : Method} {c : Code} (hM : gMC w p l s m args meth c cX6_work 6 RX6 none)  : ∀ (a1 : Nat) (M : gMem) (r : gMem) (hg1 : g a1 = 4) (hf : fX6_work_176 g a1 M = some r) (H : Heap) (locs : List Loc) (ls : Array Slot) (hH : gH w n Rm M s H locs) (hl : lv_has ls 6 [(1, .ref (w.1 + a1))]), W p l e { frames := 2, cells := 0, slots := 0, locals := 84 } s m args below meth c H locs 0 0 (gQ w n Rm below args s 0 0 (.inr none) r True) (F0 m 176 ls []) := by
  intro a1 M r hg1 hf H locs ls hH hl
  unfold fX6_work_176 at hf
  refine lv_aload_n hM.fx.1 hM.fx.2.1 dX6_work_176 rfl (lv_at hl 0 rfl) ?_
  obtain ⟨M_2, eM_2, hf⟩ := gbd hf
  refine r_go0 hH rfl (r_runV (As := []) hM hH cv_X6_158 (mX3_dropTop hLC hM.ns hg1 eM_2) (hLC.in hg1 (by decide)) (by decide) rfl rfl rfl hl.1 rfl (Nat.le_of_ble_eq_true rfl) ⟨(Nat.le_of_ble_eq_true rfl), (Nat.le_of_ble_eq_true rfl)⟩ ⟨(Nat.le_of_ble_eq_true rfl), (Nat.le_of_ble_eq_true rfl)⟩ dX6_work_177) (fun hp_1 H locs hH => ?_)
  obtain rfl := Option.some.inj hf
  exact r_vret hM hH trivial ⟨(Nat.le_of_ble_eq_true rfl), (Nat.le_of_ble_eq_true rfl)⟩ dX6_work_180
def fX6_work_120 (g : Nat → Nat)  (a1 : Nat) (x2 : Int) (x4 : Int) (x5 : Int) (M : gMem) : Option gMem :=
  (fX3_dropTop g a1 M).bind fun M_2 => (fX3_dropTop g a1 M_2).bind fun M_4 => (fX6_combined g x2 x5 x4).bind fun x_6 => (fX3_addTop g a1 (gwi x_6) M_4).bind fun M_8 => some M_8
set_option maxHeartbeats 4000000 in
set_option maxRecDepth 100000 in
theorem wX6_work_120 {w : gW} {n : Nat} {Rm : Nat → Nat → Nat} {g : Nat → Nat} (hLC : gLC g n Rm) {p : Program} {l : Launch} {e : Env} {s : State} {m : MethodId} {args : Array Value} {below : List Frame} {meth : Method} {c : Code} (hM : gMC w p l s m args meth c cX6_work 6 RX6 none)  : ∀ (a1 : Nat) (x2 : Int) (x4 : Int) (x5 : Int) (M : gMem) (r : gMem) (hg1 : g a1 = 4) (hr2 : gRI x2) (hr4 : gRI x4) (hr5 : gRI x5) (hf : fX6_work_120 g a1 x2 x4 x5 M = some r) (H : Heap) (locs : List Loc) (ls : Array Slot) (hH : gH w n Rm M s H locs) (hl : lv_has ls 6 [(1, .ref (w.1 + a1)), (2, .int (gi x2)), (4, .int (gi x4)), (5, .int (gi x5))]), W p l e { frames := 2, cells := 0, slots := 0, locals := 84 } s m args below meth c H locs 0 0 (gQ w n Rm below args s 0 0 (.inr none) r True) (F0 m 120 ls []) := by
  intro a1 x2 x4 x5 M r hg1 hr2 hr4 hr5 hf H locs ls hH hl
  unfold fX6_work_120 at hf
  refine lv_aload_n hM.fx.1 hM.fx.2.1 dX6_work_120 rfl (lv_at hl 0 rfl) ?_
  obtain ⟨M_2, eM_2, hf⟩ := gbd hf
  refine r_go0 hH rfl (r_runV (As := []) hM hH cv_X6_158 (mX3_dropTop hLC hM.ns hg1 eM_2) (hLC.in hg1 (by decide)) (by decide) rfl rfl rfl hl.1 rfl (Nat.le_of_ble_eq_true rfl) ⟨(Nat.le_of_ble_eq_true rfl), (Nat.le_of_ble_eq_true rfl)⟩ ⟨(Nat.le_of_ble_eq_true rfl), (Nat.le_of_ble_eq_true rfl)⟩ dX6_work_121) (fun hp_1 H locs hH => ?_)
  refine lv_aload_n hM.fx.1 hM.fx.2.1 dX6_work_124 rfl (lv_at hl 0 rfl) ?_
  obtain ⟨M_4, eM_4, hf⟩ := gbd hf
  refine r_go0 hH rfl (r_runV (As := []) hM hH cv_X6_158 (mX3_dropTop hLC hM.ns hg1 eM_4) (hLC.in hg1 (by decide)) (by decide) rfl rfl rfl hl.1 rfl (Nat.le_of_ble_eq_true rfl) ⟨(Nat.le_of_ble_eq_true rfl), (Nat.le_of_ble_eq_true rfl)⟩ ⟨(Nat.le_of_ble_eq_true rfl), (Nat.le_of_ble_eq_true rfl)⟩ dX6_work_125) (fun hp_3 H locs hH => ?_)
  refine lv_aload_n hM.fx.1 hM.fx.2.1 dX6_work_128 rfl (lv_at hl 0 rfl) ?_
  refine lv_iload_n hM.fx.1 hM.fx.2.1 dX6_work_129 rfl (lv_at hl 1 rfl) ?_
  refine lv_iload hM.fx.1 hM.fx.2.1 dX6_work_130 (lv_at hl 3 rfl) ?_
  refine r_i2l hM.fx hr5 dX6_work_132 ?_
  refine lv_iload hM.fx.1 hM.fx.2.1 dX6_work_133 (lv_at hl 2 rfl) ?_
  refine r_i2l hM.fx hr4 dX6_work_135 ?_
  obtain ⟨x_6, ex_6, hf⟩ := gbd hf
  refine r_go1 hH rfl (r_runS (As := [.int (gi x2), .long (gj x5), .long (gj x4)]) hM hH cs_X6_128 (mX6_combined hLC hM.ns hr2 (gRI_L hr5) (gRI_L hr4) ex_6) rfl hl.1 rfl (Nat.le_of_ble_eq_true rfl) ⟨(Nat.le_of_ble_eq_true rfl), (Nat.le_of_ble_eq_true rfl)⟩ ⟨(Nat.le_of_ble_eq_true rfl), (Nat.le_of_ble_eq_true rfl)⟩ dX6_work_136) (fun hp_5 H locs hH => ?_)
  refine r_l2i hM.fx dX6_work_139 ?_
  obtain ⟨M_8, eM_8, hf⟩ := gbd hf
  refine r_go0 hH rfl (r_runV (As := [.int (gi (gwi x_6))]) hM hH cv_X6_154 (mX3_addTop hLC hM.ns hg1 (gwi_r _) eM_8) (hLC.in hg1 (by decide)) (by decide) rfl rfl rfl hl.1 rfl (Nat.le_of_ble_eq_true rfl) ⟨(Nat.le_of_ble_eq_true rfl), (Nat.le_of_ble_eq_true rfl)⟩ ⟨(Nat.le_of_ble_eq_true rfl), (Nat.le_of_ble_eq_true rfl)⟩ dX6_work_140) (fun hp_7 H locs hH => ?_)
  refine lv_goto (tgt := 180) hM.fx.1 hM.fx.2.1 dX6_work_143 (by decide) ?_
  obtain rfl := Option.some.inj hf
  exact r_vret hM hH trivial ⟨(Nat.le_of_ble_eq_true rfl), (Nat.le_of_ble_eq_true rfl)⟩ dX6_work_180
def fX6_work (g : Nat → Nat) (a0 : Nat) (a1 : Nat) (x2 : Int) (x3 : Int) (M : gMem) : Option gMem :=
  (fX3_numberAt g a1 0 M).bind fun x_2 => (fX3_numberAt g a1 1 M).bind fun x_4 => if x2 = 0 then ((fX3_addTop g a1 x3 M).bind fun M_7 => some M_7) else (if x2 = 1 then (fX6_work_176 g a1 M) else (if x2 = 2 then ((fX3_addTop g a1 x_2 M).bind fun M_11 => some M_11) else (if x2 = 3 then ((fX3_dropTop g a1 M).bind fun M_14 => (fX3_dropTop g a1 M_14).bind fun M_16 => (fX3_addTop g a1 x_2 M_16).bind fun M_18 => (fX3_addTop g a1 x_4 M_18).bind fun M_20 => some M_20) else (if x2 = 4 then (fX6_work_120 g a1 x2 x_2 x_4 M) else (if x2 = 5 then (fX6_work_120 g a1 x2 x_2 x_4 M) else (if x2 = 6 then (fX6_work_120 g a1 x2 x_2 x_4 M) else (if x2 = 7 then ((fX3_dropTop g a1 M).bind fun M_26 => (fX4_keepSaying g a0 x_2 M_26).bind fun M_28 => some M_28) else (if x2 = 8 then (fX6_work_176 g a1 M) else (if x2 = 9 then (fX6_work_176 g a1 M) else (if x2 = 10 then (fX6_work_176 g a1 M) else (if x2 = 11 then (fX6_work_176 g a1 M) else (if x2 = 12 then ((fX3_dropTop g a1 M).bind fun M_35 => if x_2 = 0 then (gst (gup M_35 a0 7 x3) fun M_37 => some M_37) else (some M_35)) else (fX6_work_176 g a1 M)))))))))))))
set_option maxHeartbeats 4000000 in
set_option maxRecDepth 100000 in
theorem mX6_work {w : gW} {n : Nat} {Rm : Nat → Nat → Nat} {g : Nat → Nat} (hLC : gLC g n Rm) {l : Launch} (hl9 : l.stackTraces = false) {a0 : Nat} {a1 : Nat} {x2 : Int} {x3 : Int} {M : gMem} {r : gMem} (hg0 : g a0 = 5) (hg1 : g a1 = 4) (hr2 : gRI x2) (hr3 : gRI x3) (hf : fX6_work g a0 a1 x2 x3 M = some r) : gMT w n Rm l yX6_work cX6_work 6 none 2 84 0 0 [.ref (w.1 + a0), .ref (w.1 + a1), .int (gi x2), .int (gi x3)] M (.inr none) r True := by
  unfold fX6_work at hf
  refine gMT.of hl9 (by decide +kernel) ((Nat.le_of_ble_eq_true rfl)) ?_
  intro p e s m below meth c hM hH ls hl
  have hM : gMC w p l s m ([.ref (w.1 + a0), .ref (w.1 + a1), .int (gi x2), .int (gi x3)] : List Value).toArray meth c cX6_work 6 RX6 none := hM
  have hl : lv_has ls 6 [(0, .ref (w.1 + a0)), (1, .ref (w.1 + a1)), (2, .int (gi x2)), (3, .int (gi x3))] := hl
  refine lv_aload_n hM.fx.1 hM.fx.2.1 dX6_work_0 rfl (lv_at hl 1 rfl) ?_
  refine lv_iconst (v := gi (0)) hM.fx.1 hM.fx.2.1 dX6_work_1 rfl ?_
  obtain ⟨x_2, ex_2, hf⟩ := gbd hf
  refine r_go1 hH rfl (r_runV (As := [.int (gi 0)]) hM hH cv_X6_125 (mX3_numberAt hLC hM.ns hg1 (gcR (k := 0) (by decide)) ex_2) (hLC.in hg1 (by decide)) (by decide) rfl rfl rfl hl.1 rfl (Nat.le_of_ble_eq_true rfl) ⟨(Nat.le_of_ble_eq_true rfl), (Nat.le_of_ble_eq_true rfl)⟩ ⟨(Nat.le_of_ble_eq_true rfl), (Nat.le_of_ble_eq_true rfl)⟩ dX6_work_2) (fun hp_1 H locs hH => ?_)
  refine lv_istore (lv' := [(4, .int (gi x_2)), (0, .ref (w.1 + a0)), (1, .ref (w.1 + a1)), (2, .int (gi x2)), (3, .int (gi x3))]) hM.fx.1 hM.fx.2.1 dX6_work_5 hl (by decide) rfl (fun ls hl => ?_)
  refine lv_aload_n hM.fx.1 hM.fx.2.1 dX6_work_7 rfl (lv_at hl 2 rfl) ?_
  refine lv_iconst (v := gi (1)) hM.fx.1 hM.fx.2.1 dX6_work_8 rfl ?_
  obtain ⟨x_4, ex_4, hf⟩ := gbd hf
  refine r_go1 hH rfl (r_runV (As := [.int (gi 1)]) hM hH cv_X6_125 (mX3_numberAt hLC hM.ns hg1 (gcR (k := 1) (by decide)) ex_4) (hLC.in hg1 (by decide)) (by decide) rfl rfl rfl hl.1 rfl (Nat.le_of_ble_eq_true rfl) ⟨(Nat.le_of_ble_eq_true rfl), (Nat.le_of_ble_eq_true rfl)⟩ ⟨(Nat.le_of_ble_eq_true rfl), (Nat.le_of_ble_eq_true rfl)⟩ dX6_work_9) (fun hp_3 H locs hH => ?_)
  refine lv_istore (lv' := [(5, .int (gi x_4)), (4, .int (gi x_2)), (0, .ref (w.1 + a0)), (1, .ref (w.1 + a1)), (2, .int (gi x2)), (3, .int (gi x3))]) hM.fx.1 hM.fx.2.1 dX6_work_12 hl (by decide) rfl (fun ls hl => ?_)
  refine lv_iload_n hM.fx.1 hM.fx.2.1 dX6_work_14 rfl (lv_at hl 4 rfl) ?_
  by_cases h_5 : x2 = 0
  · refine r_tsIn (tgt := 80) hM.fx hr2 0 dX6_work_15 h_5 (by decide) rfl (by decide) ?_
    have hf := gpos h_5 hf
    refine lv_aload_n hM.fx.1 hM.fx.2.1 dX6_work_80 rfl (lv_at hl 3 rfl) ?_
    refine lv_iload_n hM.fx.1 hM.fx.2.1 dX6_work_81 rfl (lv_at hl 5 rfl) ?_
    obtain ⟨M_7, eM_7, hf⟩ := gbd hf
    refine r_go0 hH rfl (r_runV (As := [.int (gi x3)]) hM hH cv_X6_154 (mX3_addTop hLC hM.ns hg1 hr3 eM_7) (hLC.in hg1 (by decide)) (by decide) rfl rfl rfl hl.1 rfl (Nat.le_of_ble_eq_true rfl) ⟨(Nat.le_of_ble_eq_true rfl), (Nat.le_of_ble_eq_true rfl)⟩ ⟨(Nat.le_of_ble_eq_true rfl), (Nat.le_of_ble_eq_true rfl)⟩ dX6_work_82) (fun hp_6 H locs hH => ?_)
    refine lv_goto (tgt := 180) hM.fx.1 hM.fx.2.1 dX6_work_85 (by decide) ?_
    obtain rfl := Option.some.inj hf
    exact r_vret hM hH trivial ⟨(Nat.le_of_ble_eq_true rfl), (Nat.le_of_ble_eq_true rfl)⟩ dX6_work_180
  · have hf := gneg' h_5 hf
    by_cases h_8 : x2 = 1
    · refine r_tsIn (tgt := 176) hM.fx hr2 1 dX6_work_15 h_8 (by decide) rfl (by decide) ?_
      have hf := gpos h_8 hf
      exact wX6_work_176 hLC hM   _ _ _ hg1 hf _ _ _ hH (lv_sub hl [3] rfl)
    · have hf := gneg' h_8 hf
      by_cases h_9 : x2 = 2
      · refine r_tsIn (tgt := 88) hM.fx hr2 2 dX6_work_15 h_9 (by decide) rfl (by decide) ?_
        have hf := gpos h_9 hf
        refine lv_aload_n hM.fx.1 hM.fx.2.1 dX6_work_88 rfl (lv_at hl 3 rfl) ?_
        refine lv_iload hM.fx.1 hM.fx.2.1 dX6_work_89 (lv_at hl 1 rfl) ?_
        obtain ⟨M_11, eM_11, hf⟩ := gbd hf
        refine r_go0 hH rfl (r_runV (As := [.int (gi x_2)]) hM hH cv_X6_154 (mX3_addTop hLC hM.ns hg1 hp_1 eM_11) (hLC.in hg1 (by decide)) (by decide) rfl rfl rfl hl.1 rfl (Nat.le_of_ble_eq_true rfl) ⟨(Nat.le_of_ble_eq_true rfl), (Nat.le_of_ble_eq_true rfl)⟩ ⟨(Nat.le_of_ble_eq_true rfl), (Nat.le_of_ble_eq_true rfl)⟩ dX6_work_91) (fun hp_10 H locs hH => ?_)
        refine lv_goto (tgt := 180) hM.fx.1 hM.fx.2.1 dX6_work_94 (by decide) ?_
        obtain rfl := Option.some.inj hf
        exact r_vret hM hH trivial ⟨(Nat.le_of_ble_eq_true rfl), (Nat.le_of_ble_eq_true rfl)⟩ dX6_work_180
      · have hf := gneg' h_9 hf
        by_cases h_12 : x2 = 3
        · refine r_tsIn (tgt := 97) hM.fx hr2 3 dX6_work_15 h_12 (by decide) rfl (by decide) ?_
          have hf := gpos h_12 hf
          refine lv_aload_n hM.fx.1 hM.fx.2.1 dX6_work_97 rfl (lv_at hl 3 rfl) ?_
          obtain ⟨M_14, eM_14, hf⟩ := gbd hf
          refine r_go0 hH rfl (r_runV (As := []) hM hH cv_X6_158 (mX3_dropTop hLC hM.ns hg1 eM_14) (hLC.in hg1 (by decide)) (by decide) rfl rfl rfl hl.1 rfl (Nat.le_of_ble_eq_true rfl) ⟨(Nat.le_of_ble_eq_true rfl), (Nat.le_of_ble_eq_true rfl)⟩ ⟨(Nat.le_of_ble_eq_true rfl), (Nat.le_of_ble_eq_true rfl)⟩ dX6_work_98) (fun hp_13 H locs hH => ?_)
          refine lv_aload_n hM.fx.1 hM.fx.2.1 dX6_work_101 rfl (lv_at hl 3 rfl) ?_
          obtain ⟨M_16, eM_16, hf⟩ := gbd hf
          refine r_go0 hH rfl (r_runV (As := []) hM hH cv_X6_158 (mX3_dropTop hLC hM.ns hg1 eM_16) (hLC.in hg1 (by decide)) (by decide) rfl rfl rfl hl.1 rfl (Nat.le_of_ble_eq_true rfl) ⟨(Nat.le_of_ble_eq_true rfl), (Nat.le_of_ble_eq_true rfl)⟩ ⟨(Nat.le_of_ble_eq_true rfl), (Nat.le_of_ble_eq_true rfl)⟩ dX6_work_102) (fun hp_15 H locs hH => ?_)
          refine lv_aload_n hM.fx.1 hM.fx.2.1 dX6_work_105 rfl (lv_at hl 3 rfl) ?_
          refine lv_iload hM.fx.1 hM.fx.2.1 dX6_work_106 (lv_at hl 1 rfl) ?_
          obtain ⟨M_18, eM_18, hf⟩ := gbd hf
          refine r_go0 hH rfl (r_runV (As := [.int (gi x_2)]) hM hH cv_X6_154 (mX3_addTop hLC hM.ns hg1 hp_1 eM_18) (hLC.in hg1 (by decide)) (by decide) rfl rfl rfl hl.1 rfl (Nat.le_of_ble_eq_true rfl) ⟨(Nat.le_of_ble_eq_true rfl), (Nat.le_of_ble_eq_true rfl)⟩ ⟨(Nat.le_of_ble_eq_true rfl), (Nat.le_of_ble_eq_true rfl)⟩ dX6_work_108) (fun hp_17 H locs hH => ?_)
          refine lv_aload_n hM.fx.1 hM.fx.2.1 dX6_work_111 rfl (lv_at hl 3 rfl) ?_
          refine lv_iload hM.fx.1 hM.fx.2.1 dX6_work_112 (lv_at hl 0 rfl) ?_
          obtain ⟨M_20, eM_20, hf⟩ := gbd hf
          refine r_go0 hH rfl (r_runV (As := [.int (gi x_4)]) hM hH cv_X6_154 (mX3_addTop hLC hM.ns hg1 hp_3 eM_20) (hLC.in hg1 (by decide)) (by decide) rfl rfl rfl hl.1 rfl (Nat.le_of_ble_eq_true rfl) ⟨(Nat.le_of_ble_eq_true rfl), (Nat.le_of_ble_eq_true rfl)⟩ ⟨(Nat.le_of_ble_eq_true rfl), (Nat.le_of_ble_eq_true rfl)⟩ dX6_work_114) (fun hp_19 H locs hH => ?_)
          refine lv_goto (tgt := 180) hM.fx.1 hM.fx.2.1 dX6_work_117 (by decide) ?_
          obtain rfl := Option.some.inj hf
          exact r_vret hM hH trivial ⟨(Nat.le_of_ble_eq_true rfl), (Nat.le_of_ble_eq_true rfl)⟩ dX6_work_180
        · have hf := gneg' h_12 hf
          by_cases h_21 : x2 = 4
          · refine r_tsIn (tgt := 120) hM.fx hr2 4 dX6_work_15 h_21 (by decide) rfl (by decide) ?_
            have hf := gpos h_21 hf
            exact wX6_work_120 hLC hM   _ _ _ _ _ _ hg1 hr2 hp_1 hp_3 hf _ _ _ hH (lv_sub hl [3, 4, 1, 0] rfl)
          · have hf := gneg' h_21 hf
            by_cases h_22 : x2 = 5
            · refine r_tsIn (tgt := 120) hM.fx hr2 5 dX6_work_15 h_22 (by decide) rfl (by decide) ?_
              have hf := gpos h_22 hf
              exact wX6_work_120 hLC hM   _ _ _ _ _ _ hg1 hr2 hp_1 hp_3 hf _ _ _ hH (lv_sub hl [3, 4, 1, 0] rfl)
            · have hf := gneg' h_22 hf
              by_cases h_23 : x2 = 6
              · refine r_tsIn (tgt := 120) hM.fx hr2 6 dX6_work_15 h_23 (by decide) rfl (by decide) ?_
                have hf := gpos h_23 hf
                exact wX6_work_120 hLC hM   _ _ _ _ _ _ hg1 hr2 hp_1 hp_3 hf _ _ _ hH (lv_sub hl [3, 4, 1, 0] rfl)
              · have hf := gneg' h_23 hf
                by_cases h_24 : x2 = 7
                · refine r_tsIn (tgt := 146) hM.fx hr2 7 dX6_work_15 h_24 (by decide) rfl (by decide) ?_
                  have hf := gpos h_24 hf
                  refine lv_aload_n hM.fx.1 hM.fx.2.1 dX6_work_146 rfl (lv_at hl 3 rfl) ?_
                  obtain ⟨M_26, eM_26, hf⟩ := gbd hf
                  refine r_go0 hH rfl (r_runV (As := []) hM hH cv_X6_158 (mX3_dropTop hLC hM.ns hg1 eM_26) (hLC.in hg1 (by decide)) (by decide) rfl rfl rfl hl.1 rfl (Nat.le_of_ble_eq_true rfl) ⟨(Nat.le_of_ble_eq_true rfl), (Nat.le_of_ble_eq_true rfl)⟩ ⟨(Nat.le_of_ble_eq_true rfl), (Nat.le_of_ble_eq_true rfl)⟩ dX6_work_147) (fun hp_25 H locs hH => ?_)
                  refine lv_aload_n hM.fx.1 hM.fx.2.1 dX6_work_150 rfl (lv_at hl 2 rfl) ?_
                  refine lv_iload hM.fx.1 hM.fx.2.1 dX6_work_151 (lv_at hl 1 rfl) ?_
                  obtain ⟨M_28, eM_28, hf⟩ := gbd hf
                  refine r_go0 hH rfl (r_runV (As := [.int (gi x_2)]) hM hH cv_X6_161 (mX4_keepSaying hLC hM.ns hg0 hp_1 eM_28) (hLC.in hg0 (by decide)) (by decide) rfl rfl rfl hl.1 rfl (Nat.le_of_ble_eq_true rfl) ⟨(Nat.le_of_ble_eq_true rfl), (Nat.le_of_ble_eq_true rfl)⟩ ⟨(Nat.le_of_ble_eq_true rfl), (Nat.le_of_ble_eq_true rfl)⟩ dX6_work_153) (fun hp_27 H locs hH => ?_)
                  refine lv_goto (tgt := 180) hM.fx.1 hM.fx.2.1 dX6_work_156 (by decide) ?_
                  obtain rfl := Option.some.inj hf
                  exact r_vret hM hH trivial ⟨(Nat.le_of_ble_eq_true rfl), (Nat.le_of_ble_eq_true rfl)⟩ dX6_work_180
                · have hf := gneg' h_24 hf
                  by_cases h_29 : x2 = 8
                  · refine r_tsIn (tgt := 176) hM.fx hr2 8 dX6_work_15 h_29 (by decide) rfl (by decide) ?_
                    have hf := gpos h_29 hf
                    exact wX6_work_176 hLC hM   _ _ _ hg1 hf _ _ _ hH (lv_sub hl [3] rfl)
                  · have hf := gneg' h_29 hf
                    by_cases h_30 : x2 = 9
                    · refine r_tsIn (tgt := 176) hM.fx hr2 9 dX6_work_15 h_30 (by decide) rfl (by decide) ?_
                      have hf := gpos h_30 hf
                      exact wX6_work_176 hLC hM   _ _ _ hg1 hf _ _ _ hH (lv_sub hl [3] rfl)
                    · have hf := gneg' h_30 hf
                      by_cases h_31 : x2 = 10
                      · refine r_tsIn (tgt := 176) hM.fx hr2 10 dX6_work_15 h_31 (by decide) rfl (by decide) ?_
                        have hf := gpos h_31 hf
                        exact wX6_work_176 hLC hM   _ _ _ hg1 hf _ _ _ hH (lv_sub hl [3] rfl)
                      · have hf := gneg' h_31 hf
                        by_cases h_32 : x2 = 11
                        · refine r_tsIn (tgt := 176) hM.fx hr2 11 dX6_work_15 h_32 (by decide) rfl (by decide) ?_
                          have hf := gpos h_32 hf
                          exact wX6_work_176 hLC hM   _ _ _ hg1 hf _ _ _ hH (lv_sub hl [3] rfl)
                        · have hf := gneg' h_32 hf
                          by_cases h_33 : x2 = 12
                          · refine r_tsIn (tgt := 159) hM.fx hr2 12 dX6_work_15 h_33 (by decide) rfl (by decide) ?_
                            have hf := gpos h_33 hf
                            refine lv_aload_n hM.fx.1 hM.fx.2.1 dX6_work_159 rfl (lv_at hl 3 rfl) ?_
                            obtain ⟨M_35, eM_35, hf⟩ := gbd hf
                            refine r_go0 hH rfl (r_runV (As := []) hM hH cv_X6_158 (mX3_dropTop hLC hM.ns hg1 eM_35) (hLC.in hg1 (by decide)) (by decide) rfl rfl rfl hl.1 rfl (Nat.le_of_ble_eq_true rfl) ⟨(Nat.le_of_ble_eq_true rfl), (Nat.le_of_ble_eq_true rfl)⟩ ⟨(Nat.le_of_ble_eq_true rfl), (Nat.le_of_ble_eq_true rfl)⟩ dX6_work_160) (fun hp_34 H locs hH => ?_)
                            refine lv_iload hM.fx.1 hM.fx.2.1 dX6_work_163 (lv_at hl 1 rfl) ?_
                            refine r_if_ne (tgt := 180) hM.fx hp_1 dX6_work_165 (by decide) (fun h_36 => ?_) (fun h_36 => ?_)
                            · have hf := gneg' h_36 hf
                              obtain rfl := Option.some.inj hf
                              exact r_vret hM hH trivial ⟨(Nat.le_of_ble_eq_true rfl), (Nat.le_of_ble_eq_true rfl)⟩ dX6_work_180
                            · have hf := gpos h_36 hf
                              refine lv_aload_n hM.fx.1 hM.fx.2.1 dX6_work_168 rfl (lv_at hl 2 rfl) ?_
                              refine lv_iload_n hM.fx.1 hM.fx.2.1 dX6_work_169 rfl (lv_at hl 5 rfl) ?_
                              refine r_putI hM.fx hM.kf hH fp_X6_38 (hLC.in hg0 (by decide)) hr3 dX6_work_170 (fun H locs hH => ?_)
                              obtain ⟨M_37, eM_37, hf⟩ := gst_s hf
                              rw [← eM_37] at hH
                              refine lv_goto (tgt := 180) hM.fx.1 hM.fx.2.1 dX6_work_173 (by decide) ?_
                              obtain rfl := Option.some.inj hf
                              exact r_vret hM hH trivial ⟨(Nat.le_of_ble_eq_true rfl), (Nat.le_of_ble_eq_true rfl)⟩ dX6_work_180
                          · have hf := gneg' h_33 hf
                            refine r_tsOut (tgt := 176) hM.fx hr2 dX6_work_15 (by omega) (by decide) ?_
                            exact wX6_work_176 hLC hM   _ _ _ hg1 hf _ _ _ hH (lv_sub hl [3] rfl)
def fX6_carryOut_30 (g : Nat → Nat)  (a2 : Nat) (M : gMem) : Option gMem :=
  gst (gup M a2 8 1) fun M_1 => some M_1
set_option maxHeartbeats 4000000 in
set_option maxRecDepth 100000 in
theorem wX6_carryOut_30 {w : gW} {n : Nat} {Rm : Nat → Nat → Nat} {g : Nat → Nat} (hLC : gLC g n Rm) {p : Program} {l : Launch} {e : Env} {s : State} {m : MethodId} {args : Array Value} {below : List Frame} {meth : Method} {c : Code} (hM : gMC w p l s m args meth c cX6_carryOut 6 RX6 none)  : ∀ (a2 : Nat) (M : gMem) (r : gMem) (hg2 : g a2 = 5) (hf : fX6_carryOut_30 g a2 M = some r) (H : Heap) (locs : List Loc) (ls : Array Slot) (hH : gH w n Rm M s H locs) (hl : lv_has ls 6 [(2, .ref (w.1 + a2))]), W p l e { frames := 3, cells := 0, slots := 0, locals := 109 } s m args below meth c H locs 0 0 (gQ w n Rm below args s 0 0 (.inr none) r True) (F0 m 30 ls []) := by
  intro a2 M r hg2 hf H locs ls hH hl
  unfold fX6_carryOut_30 at hf
  refine lv_aload_n hM.fx.1 hM.fx.2.1 dX6_carryOut_30 rfl (lv_at hl 0 rfl) ?_
  refine lv_iconst (v := gi (1)) hM.fx.1 hM.fx.2.1 dX6_carryOut_31 rfl ?_
  refine r_putI hM.fx hM.kf hH fp_X6_29 (hLC.in hg2 (by decide)) (gcR (k := 1) (by decide)) dX6_carryOut_32 (fun H locs hH => ?_)
  obtain ⟨M_1, eM_1, hf⟩ := gst_s hf
  rw [← eM_1] at hH
  obtain rfl := Option.some.inj hf
  exact r_vret hM hH trivial ⟨(Nat.le_of_ble_eq_true rfl), (Nat.le_of_ble_eq_true rfl)⟩ dX6_carryOut_35
def fX6_carryOut (g : Nat → Nat) (a0 : Nat) (x1 : Int) (a2 : Nat) (M : gMem) : Option gMem :=
  (fX4_kindAt g a2 (M a2 7) M).bind fun x_3 => (fX4_operandAt g a2 (M a2 7) M).bind fun x_6 => if x_3 = (-1) then (fX6_carryOut_30 g a2 M) else (if x_3 = 13 then (fX6_carryOut_30 g a2 M) else (gst (gup M a2 7 (gwi (M a2 7 + 1))) fun M_10 => if x_3 = 11 then (gst (gup M_10 a2 7 x_6) fun M_23 => some M_23) else ((fX6_isMove g x_3).bind fun x_13 => if x_13 = 0 then ((fX0_pileAt g a0 (M_10 a2 10) M_10).bind fun a_17 => if a_17 = 0 then (some M_10) else ((fX6_work g a2 a_17 x_3 x_6 M_10).bind fun M_20 => some M_20)) else ((fX6_moveStacks g a0 x1 x_6 M_10).bind fun M_22 => some M_22))))
set_option maxHeartbeats 4000000 in
set_option maxRecDepth 100000 in
theorem mX6_carryOut {w : gW} {n : Nat} {Rm : Nat → Nat → Nat} {g : Nat → Nat} (hLC : gLC g n Rm) {l : Launch} (hl9 : l.stackTraces = false) {a0 : Nat} {x1 : Int} {a2 : Nat} {M : gMem} {r : gMem} (hg0 : g a0 = 1) (hr1 : gRI x1) (hg2 : g a2 = 5) (hf : fX6_carryOut g a0 x1 a2 M = some r) : gMT w n Rm l yX6_carryOut cX6_carryOut 6 none 3 109 0 0 [.ref (w.1 + a0), .int (gi x1), .ref (w.1 + a2)] M (.inr none) r True := by
  unfold fX6_carryOut at hf
  refine gMT.of hl9 (by decide +kernel) ((Nat.le_of_ble_eq_true rfl)) ?_
  intro p e s m below meth c hM hH ls hl
  have hM : gMC w p l s m ([.ref (w.1 + a0), .int (gi x1), .ref (w.1 + a2)] : List Value).toArray meth c cX6_carryOut 6 RX6 none := hM
  have hl : lv_has ls 6 [(0, .ref (w.1 + a0)), (1, .int (gi x1)), (2, .ref (w.1 + a2))] := hl
  refine lv_aload_n hM.fx.1 hM.fx.2.1 dX6_carryOut_0 rfl (lv_at hl 2 rfl) ?_
  refine lv_aload_n hM.fx.1 hM.fx.2.1 dX6_carryOut_1 rfl (lv_at hl 2 rfl) ?_
  refine r_getI hM.fx hM.kf hH fl_X6_38 (hLC.in hg2 (by decide)) dX6_carryOut_2 ?_
  have hr_1 := hH.2.2.i (hLC.in hg2 (by decide)).2.2 (by decide : glg 5 7 = false)
  obtain ⟨x_3, ex_3, hf⟩ := gbd hf
  refine r_go1 hH rfl (r_runV (As := [.int (gi (M a2 7))]) hM hH cv_X6_41 (mX4_kindAt hLC hM.ns hg2 hr_1 ex_3) (hLC.in hg2 (by decide)) (by decide) rfl rfl rfl hl.1 rfl (Nat.le_of_ble_eq_true rfl) ⟨(Nat.le_of_ble_eq_true rfl), (Nat.le_of_ble_eq_true rfl)⟩ ⟨(Nat.le_of_ble_eq_true rfl), (Nat.le_of_ble_eq_true rfl)⟩ dX6_carryOut_5) (fun hp_2 H locs hH => ?_)
  refine lv_istore_n (lv' := [(3, .int (gi x_3)), (0, .ref (w.1 + a0)), (1, .int (gi x1)), (2, .ref (w.1 + a2))]) hM.fx.1 hM.fx.2.1 dX6_carryOut_8 rfl hl (by decide) rfl (fun ls hl => ?_)
  refine lv_aload_n hM.fx.1 hM.fx.2.1 dX6_carryOut_9 rfl (lv_at hl 3 rfl) ?_
  refine lv_aload_n hM.fx.1 hM.fx.2.1 dX6_carryOut_10 rfl (lv_at hl 3 rfl) ?_
  refine r_getI hM.fx hM.kf hH fl_X6_38 (hLC.in hg2 (by decide)) dX6_carryOut_11 ?_
  have hr_4 := hH.2.2.i (hLC.in hg2 (by decide)).2.2 (by decide : glg 5 7 = false)
  obtain ⟨x_6, ex_6, hf⟩ := gbd hf
  refine r_go1 hH rfl (r_runV (As := [.int (gi (M a2 7))]) hM hH cv_X6_49 (mX4_operandAt hLC hM.ns hg2 hr_4 ex_6) (hLC.in hg2 (by decide)) (by decide) rfl rfl rfl hl.1 rfl (Nat.le_of_ble_eq_true rfl) ⟨(Nat.le_of_ble_eq_true rfl), (Nat.le_of_ble_eq_true rfl)⟩ ⟨(Nat.le_of_ble_eq_true rfl), (Nat.le_of_ble_eq_true rfl)⟩ dX6_carryOut_14) (fun hp_5 H locs hH => ?_)
  refine lv_istore (lv' := [(4, .int (gi x_6)), (3, .int (gi x_3)), (0, .ref (w.1 + a0)), (1, .int (gi x1)), (2, .ref (w.1 + a2))]) hM.fx.1 hM.fx.2.1 dX6_carryOut_17 hl (by decide) rfl (fun ls hl => ?_)
  refine lv_iload_n hM.fx.1 hM.fx.2.1 dX6_carryOut_19 rfl (lv_at hl 1 rfl) ?_
  refine lv_iconst (v := gi (-1)) hM.fx.1 hM.fx.2.1 dX6_carryOut_20 rfl ?_
  refine r_icmp_eq (tgt := 30) hM.fx hp_2 (gcR (k := -1) (by decide)) dX6_carryOut_21 (by decide) (fun h_7 => ?_) (fun h_7 => ?_)
  · have hf := gpos h_7 hf
    exact wX6_carryOut_30 hLC hM   _ _ _ hg2 hf _ _ _ hH (lv_sub hl [4] rfl)
  · have hf := gneg' h_7 hf
    refine lv_iload_n hM.fx.1 hM.fx.2.1 dX6_carryOut_24 rfl (lv_at hl 1 rfl) ?_
    refine lv_bipush (v := gi (13)) hM.fx.1 hM.fx.2.1 dX6_carryOut_25 (by decide) ?_
    refine r_icmp_ne (tgt := 36) hM.fx hp_2 (gcR (k := 13) (by decide)) dX6_carryOut_27 (by decide) (fun h_8 => ?_) (fun h_8 => ?_)
    · have hf := gneg' h_8 hf
      refine lv_aload_n hM.fx.1 hM.fx.2.1 dX6_carryOut_36 rfl (lv_at hl 4 rfl) ?_
      refine lv_dup hM.fx.1 hM.fx.2.1 dX6_carryOut_37 rfl ?_
      refine r_getI hM.fx hM.kf hH fl_X6_38 (hLC.in hg2 (by decide)) dX6_carryOut_38 ?_
      have hr_9 := hH.2.2.i (hLC.in hg2 (by decide)).2.2 (by decide : glg 5 7 = false)
      refine lv_iconst (v := gi (1)) hM.fx.1 hM.fx.2.1 dX6_carryOut_41 rfl ?_
      refine r_iadd hM.fx dX6_carryOut_42 ?_
      refine r_putI hM.fx hM.kf hH fp_X6_38 (hLC.in hg2 (by decide)) (gwi_r _) dX6_carryOut_43 (fun H locs hH => ?_)
      obtain ⟨M_10, eM_10, hf⟩ := gst_s hf
      rw [← eM_10] at hH
      refine lv_iload_n hM.fx.1 hM.fx.2.1 dX6_carryOut_46 rfl (lv_at hl 1 rfl) ?_
      refine lv_bipush (v := gi (11)) hM.fx.1 hM.fx.2.1 dX6_carryOut_47 (by decide) ?_
      refine r_icmp_ne (tgt := 61) hM.fx hp_2 (gcR (k := 11) (by decide)) dX6_carryOut_49 (by decide) (fun h_11 => ?_) (fun h_11 => ?_)
      · have hf := gneg' h_11 hf
        refine lv_iload_n hM.fx.1 hM.fx.2.1 dX6_carryOut_61 rfl (lv_at hl 1 rfl) ?_
        obtain ⟨x_13, ex_13, hf⟩ := gbd hf
        refine r_go1 hH rfl (r_runS (As := [.int (gi x_3)]) hM hH cs_X6_45 (mX6_isMove hLC hM.ns hp_2 ex_13) rfl hl.1 rfl (Nat.le_of_ble_eq_true rfl) ⟨(Nat.le_of_ble_eq_true rfl), (Nat.le_of_ble_eq_true rfl)⟩ ⟨(Nat.le_of_ble_eq_true rfl), (Nat.le_of_ble_eq_true rfl)⟩ dX6_carryOut_62) (fun hp_12 H locs hH => ?_)
        refine r_if_eq (tgt := 78) hM.fx (gz_r hp_12) dX6_carryOut_65 (by decide) (fun h_14 => ?_) (fun h_14 => ?_)
        · have hf := gpos h_14 hf
          refine lv_aload_n hM.fx.1 hM.fx.2.1 dX6_carryOut_78 rfl (lv_at hl 2 rfl) ?_
          refine lv_aload_n hM.fx.1 hM.fx.2.1 dX6_carryOut_79 rfl (lv_at hl 4 rfl) ?_
          refine r_getI hM.fx hM.kf hH fl_X6_103 (hLC.in hg2 (by decide)) dX6_carryOut_80 ?_
          have hr_15 := hH.2.2.i (hLC.in hg2 (by decide)).2.2 (by decide : glg 5 10 = false)
          obtain ⟨a_17, ea_17, hf⟩ := gbd hf
          refine r_go1 hH rfl (r_runV (As := [.int (gi (M_10 a2 10))]) hM hH cv_X6_109 (mX0_pileAt hLC hM.ns hg0 hr_15 ea_17) (hLC.in hg0 (by decide)) (by decide) rfl rfl rfl hl.1 rfl (Nat.le_of_ble_eq_true rfl) ⟨(Nat.le_of_ble_eq_true rfl), (Nat.le_of_ble_eq_true rfl)⟩ ⟨(Nat.le_of_ble_eq_true rfl), (Nat.le_of_ble_eq_true rfl)⟩ dX6_carryOut_83) (fun hp_16 H locs hH => ?_)
          refine r_astoreV (lv' := [(5, gvR w a_17), (4, .int (gi x_6)), (3, .int (gi x_3)), (0, .ref (w.1 + a0)), (1, .int (gi x1)), (2, .ref (w.1 + a2))]) hM.fx dX6_carryOut_86 hl (by decide) rfl (fun ls hl => ?_)
          refine r_aloadV hM.fx dX6_carryOut_88 (lv_at hl 0 rfl) ?_
          refine r_ifnull (tgt := 102) hM.fx dX6_carryOut_90 (by decide) (fun h_18 => ?_) (fun h_18 => ?_)
          · have hf := gpos h_18 hf
            obtain rfl := Option.some.inj hf
            exact r_vret hM hH trivial ⟨(Nat.le_of_ble_eq_true rfl), (Nat.le_of_ble_eq_true rfl)⟩ dX6_carryOut_102
          · have hf := gneg' h_18 hf
            rw [gvR_nn h_18] at hl
            refine lv_aload_n hM.fx.1 hM.fx.2.1 dX6_carryOut_93 rfl (lv_at hl 5 rfl) ?_
            refine lv_aload hM.fx.1 hM.fx.2.1 dX6_carryOut_94 (lv_at hl 0 rfl) ?_
            refine lv_iload_n hM.fx.1 hM.fx.2.1 dX6_carryOut_96 rfl (lv_at hl 2 rfl) ?_
            refine lv_iload hM.fx.1 hM.fx.2.1 dX6_carryOut_97 (lv_at hl 1 rfl) ?_
            obtain ⟨M_20, eM_20, hf⟩ := gbd hf
            refine r_go0 hH rfl (r_runS (As := [.ref (w.1 + a2), .ref (w.1 + a_17), .int (gi x_3), .int (gi x_6)]) hM hH cs_X6_140 (mX6_work hLC hM.ns hg2 (hp_16 h_18) hp_2 hp_5 eM_20) rfl hl.1 rfl (Nat.le_of_ble_eq_true rfl) ⟨(Nat.le_of_ble_eq_true rfl), (Nat.le_of_ble_eq_true rfl)⟩ ⟨(Nat.le_of_ble_eq_true rfl), (Nat.le_of_ble_eq_true rfl)⟩ dX6_carryOut_99) (fun hp_19 H locs hH => ?_)
            obtain rfl := Option.some.inj hf
            exact r_vret hM hH trivial ⟨(Nat.le_of_ble_eq_true rfl), (Nat.le_of_ble_eq_true rfl)⟩ dX6_carryOut_102
        · have hf := gneg' h_14 hf
          refine lv_aload_n hM.fx.1 hM.fx.2.1 dX6_carryOut_68 rfl (lv_at hl 2 rfl) ?_
          refine lv_iload_n hM.fx.1 hM.fx.2.1 dX6_carryOut_69 rfl (lv_at hl 3 rfl) ?_
          refine lv_iload hM.fx.1 hM.fx.2.1 dX6_carryOut_70 (lv_at hl 0 rfl) ?_
          obtain ⟨M_22, eM_22, hf⟩ := gbd hf
          refine r_go0 hH rfl (r_runS (As := [.ref (w.1 + a0), .int (gi x1), .int (gi x_6)]) hM hH cs_X6_136 (mX6_moveStacks hLC hM.ns hg0 hr1 hp_5 eM_22) rfl hl.1 rfl (Nat.le_of_ble_eq_true rfl) ⟨(Nat.le_of_ble_eq_true rfl), (Nat.le_of_ble_eq_true rfl)⟩ ⟨(Nat.le_of_ble_eq_true rfl), (Nat.le_of_ble_eq_true rfl)⟩ dX6_carryOut_72) (fun hp_21 H locs hH => ?_)
          refine lv_goto (tgt := 102) hM.fx.1 hM.fx.2.1 dX6_carryOut_75 (by decide) ?_
          obtain rfl := Option.some.inj hf
          exact r_vret hM hH trivial ⟨(Nat.le_of_ble_eq_true rfl), (Nat.le_of_ble_eq_true rfl)⟩ dX6_carryOut_102
      · have hf := gpos h_11 hf
        refine lv_aload_n hM.fx.1 hM.fx.2.1 dX6_carryOut_52 rfl (lv_at hl 4 rfl) ?_
        refine lv_iload hM.fx.1 hM.fx.2.1 dX6_carryOut_53 (lv_at hl 0 rfl) ?_
        refine r_putI hM.fx hM.kf hH fp_X6_38 (hLC.in hg2 (by decide)) hp_5 dX6_carryOut_55 (fun H locs hH => ?_)
        obtain ⟨M_23, eM_23, hf⟩ := gst_s hf
        rw [← eM_23] at hH
        refine lv_goto (tgt := 102) hM.fx.1 hM.fx.2.1 dX6_carryOut_58 (by decide) ?_
        obtain rfl := Option.some.inj hf
        exact r_vret hM hH trivial ⟨(Nat.le_of_ble_eq_true rfl), (Nat.le_of_ble_eq_true rfl)⟩ dX6_carryOut_102
    · have hf := gpos h_8 hf
      exact wX6_carryOut_30 hLC hM   _ _ _ hg2 hf _ _ _ hH (lv_sub hl [4] rfl)
def fX6_makeStep_20 (g : Nat → Nat)  (a0 : Nat) (x1 : Int) (a2 : Nat) (xs0 : Int) (M : gMem) : Option (Int × gMem) :=
  (fX6_waitReason g a0 a2 M).bind fun x_2 => if x_2 = 0 then (gst (gup M a2 12 (gwi (M a2 12 + 1))) fun M_5 => (fX6_faultOf g a0 a2 M_5).bind fun x_7 => if x_7 = 0 then ((fX6_carryOut g a0 x1 a2 M_5).bind fun M_10 => (fX2_add g (a0 + 4) (M_10 a0 7) x1 xs0 0 M_10).bind fun M_13 => some (1, M_13)) else (gst (gup M_5 a2 8 2) fun M_14 => gst (gup M_14 a2 9 x_7) fun M_15 => (fX2_add g (a0 + 4) (M_15 a0 7) x1 xs0 (gwi (10 + x_7)) M_15).bind fun M_18 => some (1, M_18))) else (gst (gup M a2 13 (gwi (M a2 13 + 1))) fun M_20 => (fX2_add g (a0 + 4) (M_20 a0 7) x1 xs0 1 M_20).bind fun M_23 => some (0, M_23))
set_option maxHeartbeats 4000000 in
set_option maxRecDepth 100000 in
theorem wX6_makeStep_20 {w : gW} {n : Nat} {Rm : Nat → Nat → Nat} {g : Nat → Nat} (hLC : gLC g n Rm) {p : Program} {l : Launch} {e : Env} {s : State} {m : MethodId} {args : Array Value} {below : List Frame} {meth : Method} {c : Code} (hM : gMC w p l s m args meth c cX6_makeStep 5 RX6 (some .boolean))  : ∀ (a0 : Nat) (x1 : Int) (a2 : Nat) (xs0 : Int) (M : gMem) (r : (Int × gMem)) (hg0 : g a0 = 1) (hr1 : gRI x1) (hg2 : g a2 = 5) (hrs0 : gRI xs0) (hf : fX6_makeStep_20 g a0 x1 a2 xs0 M = some r) (H : Heap) (locs : List Loc) (ls : Array Slot) (hH : gH w n Rm M s H locs) (hl : lv_has ls 5 [(0, .ref (w.1 + a0)), (1, .int (gi x1)), (2, .ref (w.1 + a2))]), W p l e { frames := 4, cells := 0, slots := 0, locals := 134 } s m args below meth c H locs 0 0 (gQ w n Rm below args s 0 0 (.inr (some (.int (gi r.1)))) r.2 (r.1 = 0 ∨ r.1 = 1)) (F0 m 20 ls [.int (gi xs0)]) := by
  intro a0 x1 a2 xs0 M r hg0 hr1 hg2 hrs0 hf H locs ls hH hl
  unfold fX6_makeStep_20 at hf
  refine lv_istore_n (lv' := [(3, .int (gi xs0)), (0, .ref (w.1 + a0)), (1, .int (gi x1)), (2, .ref (w.1 + a2))]) hM.fx.1 hM.fx.2.1 dX6_makeStep_20 rfl hl (by decide) rfl (fun ls hl => ?_)
  refine lv_aload_n hM.fx.1 hM.fx.2.1 dX6_makeStep_21 rfl (lv_at hl 1 rfl) ?_
  refine lv_aload_n hM.fx.1 hM.fx.2.1 dX6_makeStep_22 rfl (lv_at hl 3 rfl) ?_
  obtain ⟨x_2, ex_2, hf⟩ := gbd hf
  refine r_go1 hH rfl (r_runS (As := [.ref (w.1 + a0), .ref (w.1 + a2)]) hM hH cs_X6_34 (mX6_waitReason hLC hM.ns hg0 hg2 ex_2) rfl hl.1 rfl (Nat.le_of_ble_eq_true rfl) ⟨(Nat.le_of_ble_eq_true rfl), (Nat.le_of_ble_eq_true rfl)⟩ ⟨(Nat.le_of_ble_eq_true rfl), (Nat.le_of_ble_eq_true rfl)⟩ dX6_makeStep_23) (fun hp_1 H locs hH => ?_)
  refine r_if_eq (tgt := 55) hM.fx hp_1 dX6_makeStep_26 (by decide) (fun h_3 => ?_) (fun h_3 => ?_)
  · have hf := gpos h_3 hf
    refine lv_aload_n hM.fx.1 hM.fx.2.1 dX6_makeStep_55 rfl (lv_at hl 3 rfl) ?_
    refine lv_dup hM.fx.1 hM.fx.2.1 dX6_makeStep_56 rfl ?_
    refine r_getI hM.fx hM.kf hH fl_X6_90 (hLC.in hg2 (by decide)) dX6_makeStep_57 ?_
    have hr_4 := hH.2.2.i (hLC.in hg2 (by decide)).2.2 (by decide : glg 5 12 = false)
    refine lv_iconst (v := gi (1)) hM.fx.1 hM.fx.2.1 dX6_makeStep_60 rfl ?_
    refine r_iadd hM.fx dX6_makeStep_61 ?_
    refine r_putI hM.fx hM.kf hH fp_X6_90 (hLC.in hg2 (by decide)) (gwi_r _) dX6_makeStep_62 (fun H locs hH => ?_)
    obtain ⟨M_5, eM_5, hf⟩ := gst_s hf
    rw [← eM_5] at hH
    refine lv_aload_n hM.fx.1 hM.fx.2.1 dX6_makeStep_65 rfl (lv_at hl 1 rfl) ?_
    refine lv_aload_n hM.fx.1 hM.fx.2.1 dX6_makeStep_66 rfl (lv_at hl 3 rfl) ?_
    obtain ⟨x_7, ex_7, hf⟩ := gbd hf
    refine r_go1 hH rfl (r_runS (As := [.ref (w.1 + a0), .ref (w.1 + a2)]) hM hH cs_X6_93 (mX6_faultOf hLC hM.ns hg0 hg2 ex_7) rfl hl.1 rfl (Nat.le_of_ble_eq_true rfl) ⟨(Nat.le_of_ble_eq_true rfl), (Nat.le_of_ble_eq_true rfl)⟩ ⟨(Nat.le_of_ble_eq_true rfl), (Nat.le_of_ble_eq_true rfl)⟩ dX6_makeStep_67) (fun hp_6 H locs hH => ?_)
    refine lv_istore (lv' := [(4, .int (gi x_7)), (3, .int (gi xs0)), (0, .ref (w.1 + a0)), (1, .int (gi x1)), (2, .ref (w.1 + a2))]) hM.fx.1 hM.fx.2.1 dX6_makeStep_70 hl (by decide) rfl (fun ls hl => ?_)
    refine lv_iload hM.fx.1 hM.fx.2.1 dX6_makeStep_72 (lv_at hl 0 rfl) ?_
    refine r_if_eq (tgt := 109) hM.fx hp_6 dX6_makeStep_74 (by decide) (fun h_8 => ?_) (fun h_8 => ?_)
    · have hf := gpos h_8 hf
      refine lv_aload_n hM.fx.1 hM.fx.2.1 dX6_makeStep_109 rfl (lv_at hl 2 rfl) ?_
      refine lv_iload_n hM.fx.1 hM.fx.2.1 dX6_makeStep_110 rfl (lv_at hl 3 rfl) ?_
      refine lv_aload_n hM.fx.1 hM.fx.2.1 dX6_makeStep_111 rfl (lv_at hl 4 rfl) ?_
      obtain ⟨M_10, eM_10, hf⟩ := gbd hf
      refine r_go0 hH rfl (r_runS (As := [.ref (w.1 + a0), .int (gi x1), .ref (w.1 + a2)]) hM hH cs_X6_99 (mX6_carryOut hLC hM.ns hg0 hr1 hg2 eM_10) rfl hl.1 rfl (Nat.le_of_ble_eq_true rfl) ⟨(Nat.le_of_ble_eq_true rfl), (Nat.le_of_ble_eq_true rfl)⟩ ⟨(Nat.le_of_ble_eq_true rfl), (Nat.le_of_ble_eq_true rfl)⟩ dX6_makeStep_112) (fun hp_9 H locs hH => ?_)
      refine lv_aload_n hM.fx.1 hM.fx.2.1 dX6_makeStep_115 rfl (lv_at hl 2 rfl) ?_
      refine r_getR hM.fx hM.kf hH hLC fl_X6_80 hg0 gch_1_3 dX6_makeStep_116 ?_
      refine lv_aload_n hM.fx.1 hM.fx.2.1 dX6_makeStep_119 rfl (lv_at hl 2 rfl) ?_
      refine r_getI hM.fx hM.kf hH fl_X6_76 (hLC.in hg0 (by decide)) dX6_makeStep_120 ?_
      have hr_11 := hH.2.2.i (hLC.in hg0 (by decide)).2.2 (by decide : glg 1 7 = false)
      refine lv_iload_n hM.fx.1 hM.fx.2.1 dX6_makeStep_123 rfl (lv_at hl 3 rfl) ?_
      refine lv_iload_n hM.fx.1 hM.fx.2.1 dX6_makeStep_124 rfl (lv_at hl 1 rfl) ?_
      refine lv_iconst (v := gi (0)) hM.fx.1 hM.fx.2.1 dX6_makeStep_125 rfl ?_
      obtain ⟨M_13, eM_13, hf⟩ := gbd hf
      refine r_go0 hH rfl (r_runV (As := [.int (gi (M_10 a0 7)), .int (gi x1), .int (gi xs0), .int (gi 0)]) hM hH cv_X6_84 (mX2_add hLC hM.ns (hLC.ch hg0 (by decide) gch_1_3) hr_11 hr1 hrs0 (gcR (k := 0) (by decide)) eM_13) (hLC.in (hLC.ch hg0 (by decide) gch_1_3) (by decide)) (by decide) rfl rfl rfl hl.1 rfl (Nat.le_of_ble_eq_true rfl) ⟨(Nat.le_of_ble_eq_true rfl), (Nat.le_of_ble_eq_true rfl)⟩ ⟨(Nat.le_of_ble_eq_true rfl), (Nat.le_of_ble_eq_true rfl)⟩ dX6_makeStep_126) (fun hp_12 H locs hH => ?_)
      refine lv_iconst (v := gi (1)) hM.fx.1 hM.fx.2.1 dX6_makeStep_129 rfl ?_
      obtain rfl := Option.some.inj hf
      exact r_zret hM hH (Or.inr rfl) (Or.inr rfl) ⟨(Nat.le_of_ble_eq_true rfl), (Nat.le_of_ble_eq_true rfl)⟩ dX6_makeStep_130
    · have hf := gneg' h_8 hf
      refine lv_aload_n hM.fx.1 hM.fx.2.1 dX6_makeStep_77 rfl (lv_at hl 4 rfl) ?_
      refine lv_iconst (v := gi (2)) hM.fx.1 hM.fx.2.1 dX6_makeStep_78 rfl ?_
      refine r_putI hM.fx hM.kf hH fp_X6_29 (hLC.in hg2 (by decide)) (gcR (k := 2) (by decide)) dX6_makeStep_79 (fun H locs hH => ?_)
      obtain ⟨M_14, eM_14, hf⟩ := gst_s hf
      rw [← eM_14] at hH
      refine lv_aload_n hM.fx.1 hM.fx.2.1 dX6_makeStep_82 rfl (lv_at hl 4 rfl) ?_
      refine lv_iload hM.fx.1 hM.fx.2.1 dX6_makeStep_83 (lv_at hl 0 rfl) ?_
      refine r_putI hM.fx hM.kf hH fp_X6_96 (hLC.in hg2 (by decide)) hp_6 dX6_makeStep_85 (fun H locs hH => ?_)
      obtain ⟨M_15, eM_15, hf⟩ := gst_s hf
      rw [← eM_15] at hH
      refine lv_aload_n hM.fx.1 hM.fx.2.1 dX6_makeStep_88 rfl (lv_at hl 2 rfl) ?_
      refine r_getR hM.fx hM.kf hH hLC fl_X6_80 hg0 gch_1_3 dX6_makeStep_89 ?_
      refine lv_aload_n hM.fx.1 hM.fx.2.1 dX6_makeStep_92 rfl (lv_at hl 2 rfl) ?_
      refine r_getI hM.fx hM.kf hH fl_X6_76 (hLC.in hg0 (by decide)) dX6_makeStep_93 ?_
      have hr_16 := hH.2.2.i (hLC.in hg0 (by decide)).2.2 (by decide : glg 1 7 = false)
      refine lv_iload_n hM.fx.1 hM.fx.2.1 dX6_makeStep_96 rfl (lv_at hl 3 rfl) ?_
      refine lv_iload_n hM.fx.1 hM.fx.2.1 dX6_makeStep_97 rfl (lv_at hl 1 rfl) ?_
      refine lv_bipush (v := gi (10)) hM.fx.1 hM.fx.2.1 dX6_makeStep_98 (by decide) ?_
      refine lv_iload hM.fx.1 hM.fx.2.1 dX6_makeStep_100 (lv_at hl 0 rfl) ?_
      refine r_iadd hM.fx dX6_makeStep_102 ?_
      obtain ⟨M_18, eM_18, hf⟩ := gbd hf
      refine r_go0 hH rfl (r_runV (As := [.int (gi (M_15 a0 7)), .int (gi x1), .int (gi xs0), .int (gi (gwi (10 + x_7)))]) hM hH cv_X6_84 (mX2_add hLC hM.ns (hLC.ch hg0 (by decide) gch_1_3) hr_16 hr1 hrs0 (gwi_r _) eM_18) (hLC.in (hLC.ch hg0 (by decide) gch_1_3) (by decide)) (by decide) rfl rfl rfl hl.1 rfl (Nat.le_of_ble_eq_true rfl) ⟨(Nat.le_of_ble_eq_true rfl), (Nat.le_of_ble_eq_true rfl)⟩ ⟨(Nat.le_of_ble_eq_true rfl), (Nat.le_of_ble_eq_true rfl)⟩ dX6_makeStep_103) (fun hp_17 H locs hH => ?_)
      refine lv_goto (tgt := 129) hM.fx.1 hM.fx.2.1 dX6_makeStep_106 (by decide) ?_
      refine lv_iconst (v := gi (1)) hM.fx.1 hM.fx.2.1 dX6_makeStep_129 rfl ?_
      obtain rfl := Option.some.inj hf
      exact r_zret hM hH (Or.inr rfl) (Or.inr rfl) ⟨(Nat.le_of_ble_eq_true rfl), (Nat.le_of_ble_eq_true rfl)⟩ dX6_makeStep_130
  · have hf := gneg' h_3 hf
    refine lv_aload_n hM.fx.1 hM.fx.2.1 dX6_makeStep_29 rfl (lv_at hl 3 rfl) ?_
    refine lv_dup hM.fx.1 hM.fx.2.1 dX6_makeStep_30 rfl ?_
    refine r_getI hM.fx hM.kf hH fl_X6_77 (hLC.in hg2 (by decide)) dX6_makeStep_31 ?_
    have hr_19 := hH.2.2.i (hLC.in hg2 (by decide)).2.2 (by decide : glg 5 13 = false)
    refine lv_iconst (v := gi (1)) hM.fx.1 hM.fx.2.1 dX6_makeStep_34 rfl ?_
    refine r_iadd hM.fx dX6_makeStep_35 ?_
    refine r_putI hM.fx hM.kf hH fp_X6_77 (hLC.in hg2 (by decide)) (gwi_r _) dX6_makeStep_36 (fun H locs hH => ?_)
    obtain ⟨M_20, eM_20, hf⟩ := gst_s hf
    rw [← eM_20] at hH
    refine lv_aload_n hM.fx.1 hM.fx.2.1 dX6_makeStep_39 rfl (lv_at hl 1 rfl) ?_
    refine r_getR hM.fx hM.kf hH hLC fl_X6_80 hg0 gch_1_3 dX6_makeStep_40 ?_
    refine lv_aload_n hM.fx.1 hM.fx.2.1 dX6_makeStep_43 rfl (lv_at hl 1 rfl) ?_
    refine r_getI hM.fx hM.kf hH fl_X6_76 (hLC.in hg0 (by decide)) dX6_makeStep_44 ?_
    have hr_21 := hH.2.2.i (hLC.in hg0 (by decide)).2.2 (by decide : glg 1 7 = false)
    refine lv_iload_n hM.fx.1 hM.fx.2.1 dX6_makeStep_47 rfl (lv_at hl 2 rfl) ?_
    refine lv_iload_n hM.fx.1 hM.fx.2.1 dX6_makeStep_48 rfl (lv_at hl 0 rfl) ?_
    refine lv_iconst (v := gi (1)) hM.fx.1 hM.fx.2.1 dX6_makeStep_49 rfl ?_
    obtain ⟨M_23, eM_23, hf⟩ := gbd hf
    refine r_go0 hH rfl (r_runV (As := [.int (gi (M_20 a0 7)), .int (gi x1), .int (gi xs0), .int (gi 1)]) hM hH cv_X6_84 (mX2_add hLC hM.ns (hLC.ch hg0 (by decide) gch_1_3) hr_21 hr1 hrs0 (gcR (k := 1) (by decide)) eM_23) (hLC.in (hLC.ch hg0 (by decide) gch_1_3) (by decide)) (by decide) rfl rfl rfl hl.1 rfl (Nat.le_of_ble_eq_true rfl) ⟨(Nat.le_of_ble_eq_true rfl), (Nat.le_of_ble_eq_true rfl)⟩ ⟨(Nat.le_of_ble_eq_true rfl), (Nat.le_of_ble_eq_true rfl)⟩ dX6_makeStep_50) (fun hp_22 H locs hH => ?_)
    refine lv_iconst (v := gi (0)) hM.fx.1 hM.fx.2.1 dX6_makeStep_53 rfl ?_
    obtain rfl := Option.some.inj hf
    exact r_zret hM hH (Or.inl rfl) (Or.inl rfl) ⟨(Nat.le_of_ble_eq_true rfl), (Nat.le_of_ble_eq_true rfl)⟩ dX6_makeStep_54
def fX6_makeStep (g : Nat → Nat) (a0 : Nat) (x1 : Int) (a2 : Nat) (M : gMem) : Option (Int × gMem) :=
  (fX4_kindAt g a2 (M a2 7) M).bind fun x_3 => if x_3 = (-1) then (fX6_makeStep_20 g a0 x1 a2 ((-1)) M) else (fX6_makeStep_20 g a0 x1 a2 (M a2 7) M)
set_option maxHeartbeats 4000000 in
set_option maxRecDepth 100000 in
theorem mX6_makeStep {w : gW} {n : Nat} {Rm : Nat → Nat → Nat} {g : Nat → Nat} (hLC : gLC g n Rm) {l : Launch} (hl9 : l.stackTraces = false) {a0 : Nat} {x1 : Int} {a2 : Nat} {M : gMem} {r : (Int × gMem)} (hg0 : g a0 = 1) (hr1 : gRI x1) (hg2 : g a2 = 5) (hf : fX6_makeStep g a0 x1 a2 M = some r) : gMT w n Rm l yX6_makeStep cX6_makeStep 5 (some .boolean) 4 134 0 0 [.ref (w.1 + a0), .int (gi x1), .ref (w.1 + a2)] M (.inr (some (.int (gi r.1)))) r.2 (r.1 = 0 ∨ r.1 = 1) := by
  unfold fX6_makeStep at hf
  refine gMT.of hl9 (by decide +kernel) ((Nat.le_of_ble_eq_true rfl)) ?_
  intro p e s m below meth c hM hH ls hl
  have hM : gMC w p l s m ([.ref (w.1 + a0), .int (gi x1), .ref (w.1 + a2)] : List Value).toArray meth c cX6_makeStep 5 RX6 (some .boolean) := hM
  have hl : lv_has ls 5 [(0, .ref (w.1 + a0)), (1, .int (gi x1)), (2, .ref (w.1 + a2))] := hl
  refine lv_aload_n hM.fx.1 hM.fx.2.1 dX6_makeStep_0 rfl (lv_at hl 2 rfl) ?_
  refine lv_aload_n hM.fx.1 hM.fx.2.1 dX6_makeStep_1 rfl (lv_at hl 2 rfl) ?_
  refine r_getI hM.fx hM.kf hH fl_X6_38 (hLC.in hg2 (by decide)) dX6_makeStep_2 ?_
  have hr_1 := hH.2.2.i (hLC.in hg2 (by decide)).2.2 (by decide : glg 5 7 = false)
  obtain ⟨x_3, ex_3, hf⟩ := gbd hf
  refine r_go1 hH rfl (r_runV (As := [.int (gi (M a2 7))]) hM hH cv_X6_41 (mX4_kindAt hLC hM.ns hg2 hr_1 ex_3) (hLC.in hg2 (by decide)) (by decide) rfl rfl rfl hl.1 rfl (Nat.le_of_ble_eq_true rfl) ⟨(Nat.le_of_ble_eq_true rfl), (Nat.le_of_ble_eq_true rfl)⟩ ⟨(Nat.le_of_ble_eq_true rfl), (Nat.le_of_ble_eq_true rfl)⟩ dX6_makeStep_5) (fun hp_2 H locs hH => ?_)
  refine lv_iconst (v := gi (-1)) hM.fx.1 hM.fx.2.1 dX6_makeStep_8 rfl ?_
  refine r_icmp_ne (tgt := 16) hM.fx hp_2 (gcR (k := -1) (by decide)) dX6_makeStep_9 (by decide) (fun h_4 => ?_) (fun h_4 => ?_)
  · have hf := gneg' h_4 hf
    refine lv_aload_n hM.fx.1 hM.fx.2.1 dX6_makeStep_16 rfl (lv_at hl 2 rfl) ?_
    refine r_getI hM.fx hM.kf hH fl_X6_38 (hLC.in hg2 (by decide)) dX6_makeStep_17 ?_
    have hr_5 := hH.2.2.i (hLC.in hg2 (by decide)).2.2 (by decide : glg 5 7 = false)
    exact wX6_makeStep_20 hLC hM   _ _ _ _ _ _ hg0 hr1 hg2 hr_5 hf _ _ _ hH hl
  · have hf := gpos h_4 hf
    refine lv_iconst (v := gi (-1)) hM.fx.1 hM.fx.2.1 dX6_makeStep_12 rfl ?_
    refine lv_goto (tgt := 20) hM.fx.1 hM.fx.2.1 dX6_makeStep_13 (by decide) ?_
    exact wX6_makeStep_20 hLC hM   _ _ _ _ _ _ hg0 hr1 hg2 (gcR (k := -1) (by decide)) hf _ _ _ hH hl
