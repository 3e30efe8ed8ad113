/-! The law: the two calls that answer a float or a double; the loop (printed by wip/gen/mk_loop.py) -/
theorem l_cmp {p : Program} {l : Launch} {e : Env} {R : Room} {s : State} {m : MethodId} {args : Array Value} {below : List Frame} {meth : Method} {c : Code} {H : Heap} {locs : List Loc} {cells slots : Nat} {Q : State → Prop} {cc : ByteArray} {own : String} {w : gW} {ls : Array Slot} {x : UInt64} {q : Nat} {off : Int} (hM : gMD w p l s m args c cc 9 own) (h5 : ls[5]? = some (.val (.double x))) (h7 : ls[7]? = some (.val (.double x)))
    (d0 : decode cc q = .ok (.dload 5, 2)) (d2 : decode cc (q + 2) = .ok (.dload 7, 2)) (d4 : decode cc (q + 4) = .ok (.dcmp .l, 1)) (d5 : decode cc (q + 5) = .ok (.ifCond .eq 21, 3)) (d8 : decode cc (q + 8) = .ok (.dload 5, 2)) (d10 : decode cc (q + 10) = .ok (.dload 5, 2)) (d12 : decode cc (q + 12) = .ok (.dcmp .l, 1)) (d13 : decode cc (q + 13) = .ok (.ifCond .eq 11, 3)) (d16 : decode cc (q + 16) = .ok (.dload 7, 2)) (d18 : decode cc (q + 18) = .ok (.dload 7, 2)) (d20 : decode cc (q + 20) = .ok (.dcmp .l, 1)) (d21 : decode cc (q + 21) = .ok (.ifCond .ne 5, 3)) (d26 : decode cc (q + 26) = .ok (.goto off, 3)) (ho : ((q + 26 : Nat) : Int) + off = ((1972 : Nat) : Int))
    (kk : W p l e R s m args below meth c H locs cells slots Q (F0 m 1972 ls [])) : W p l e R s m args below meth c H locs cells slots Q (F0 m q ls []) := by
  have fin : W p l e R s m args below meth c H locs cells slots Q (F0 m (q + 26) ls []) := lv_goto (tgt := 1972) hM.fx.1 hM.fx.2.1 d26 ho kk
  obtain ⟨z, hz, hzr⟩ : ∃ z : Int, Op.cmpValue (FP.dcmp x x) .l = gi z ∧ gRI z := ⟨_, (gi_of _).symm, gi_r _⟩
  refine lv_dload hM.fx.1 hM.fx.2.1 d0 h5 ?_
  refine lv_dload hM.fx.1 hM.fx.2.1 d2 h7 ?_
  refine lv_dcmp hM.fx.1 hM.fx.2.1 d4 ?_
  rw [hz]
  refine r_if_eq (tgt := q + 26) hM.fx hzr d5 (by omega) (fun _ => fin) (fun h0 => ?_)
  refine lv_dload hM.fx.1 hM.fx.2.1 d8 h5 ?_
  refine lv_dload hM.fx.1 hM.fx.2.1 d10 h5 ?_
  refine lv_dcmp hM.fx.1 hM.fx.2.1 d12 ?_
  rw [hz]
  refine r_if_eq (tgt := q + 24) hM.fx hzr d13 (by omega) (fun h => absurd h h0) (fun _ => ?_)
  refine lv_dload hM.fx.1 hM.fx.2.1 d16 h7 ?_
  refine lv_dload hM.fx.1 hM.fx.2.1 d18 h7 ?_
  refine lv_dcmp hM.fx.1 hM.fx.2.1 d20 ?_
  rw [hz]
  exact r_if_ne (tgt := q + 26) hM.fx hzr d21 (by omega) (fun _ => fin) (fun h => absurd h h0)
theorem fp_f2d {x : UInt32} (h : fpN32 x) : fpN64 (FP.f2d x) := by
  have hn := fp_d32 h
  have hc : fpN64 (FP.Core.f2d x) := by
    show fpN64 (UInt64.ofNat (FP.Core.encode FP.Core.b64 (FP.Core.round FP.Core.b64 (FP.Core.decode FP.Core.b32 x.toNat))))
    refine fp_b64 ?_
    generalize FP.Core.decode FP.Core.b32 x.toNat = z at hn
    cases z with
    | nan => exact absurd rfl hn
    | inf s => exact trivial
    | fin s c q => exact fp_r64
  unfold FP.f2d
  split
  · rename_i h2
    exfalso
    exact hn (of_decide_eq_true h2)
  · exact hc
theorem full_lp {g : Nat → Nat} {v : UInt32} : ∀ (fu a : Nat) (x1 : UInt32) (x2 : Int) (M : gMem), fX8_fullness_4 g fu a x1 x2 M = some v → fpN32 v := by
  intro fu
  induction fu with
  | zero => intro a x1 x2 M h; cases h
  | succ fu ih =>
    intro a x1 x2 M h
    unfold fX8_fullness_4 at h
    by_cases c1 : M (a + 1) 6 ≤ x2
    · rw [if_pos c1] at h
      by_cases c2 : 0 < M (a + 1) 6
      · rw [if_pos c2] at h
        obtain ⟨q1, q2⟩ := gif h
        cases q2
        exact q1
      · rw [if_neg c2] at h
        cases h
        show (FP.fconst0 &&& 0x7fffffff : UInt32) ≤ 0x7f800000
        decide
    · rw [if_neg c1] at h
      obtain ⟨b, hb, h⟩ := gbd h
      by_cases c2 : b = 0
      · rw [if_pos c2] at h
        exact ih _ _ _ _ h
      · rw [if_neg c2] at h
        by_cases c3 : M b 2 ≤ 0
        · rw [if_pos c3] at h
          exact ih _ _ _ _ h
        · rw [if_neg c3] at h
          obtain ⟨q1, h⟩ := gif h
          obtain ⟨q2, h⟩ := gif h
          exact ih _ _ _ _ h
theorem full_ok {M : gMem} {K : Int} {v : UInt32} (hR : REL M K) (h : fX8_fullness gsh 1 M = some v) : vf_n64 (FP.f2d v) := fp_f2d (full_lp gF 1 FP.fconst0 0 M h)
theorem gm_714 : Cond.methodLink RL 163 yX8_waitShare ∈ gG := gG_in 714 (by decide +kernel) (by decide +kernel)
theorem gm_715 : Cond.instanceMethod yX8_waitShare ∈ gG := gG_in 715 (by decide +kernel) (by decide +kernel)
theorem gm_716 : Cond.selects yX8_waitShare.cls yX8_waitShare yX8_waitShare ∈ gG := gG_in 716 (by decide +kernel) (by decide +kernel)
theorem gm_717 : Cond.code yX8_waitShare cX8_waitShare 3 (some .double) ∈ gG := gG_in 717 (by decide +kernel) (by decide +kernel)
theorem cvM_163 : gCV RL 163 yX8_waitShare cX8_waitShare 3 (some .double) 0 := ⟨gm_714, gm_715, gm_716, gm_92, gm_717, by decide +kernel⟩
theorem gm_1572 : Cond.methodLink RL 167 yX9_waitShare ∈ gG := gG_in 1572 (by decide +kernel) (by decide +kernel)
theorem gm_1573 : Cond.instanceMethod yX9_waitShare ∈ gG := gG_in 1573 (by decide +kernel) (by decide +kernel)
theorem gm_1574 : Cond.selects yX9_waitShare.cls yX9_waitShare yX9_waitShare ∈ gG := gG_in 1574 (by decide +kernel) (by decide +kernel)
theorem gm_1575 : Cond.code yX9_waitShare cX9_waitShare 3 (some .double) ∈ gG := gG_in 1575 (by decide +kernel) (by decide +kernel)
theorem cvM_167 : gCV RL 167 yX9_waitShare cX9_waitShare 3 (some .double) 0 := ⟨gm_1572, gm_1573, gm_1574, gm_100, gm_1575, by decide +kernel⟩
theorem gm_726 : Cond.methodLink RL 168 yX8_fullness ∈ gG := gG_in 726 (by decide +kernel) (by decide +kernel)
theorem gm_727 : Cond.instanceMethod yX8_fullness ∈ gG := gG_in 727 (by decide +kernel) (by decide +kernel)
theorem gm_728 : Cond.selects yX8_fullness.cls yX8_fullness yX8_fullness ∈ gG := gG_in 728 (by decide +kernel) (by decide +kernel)
theorem gm_729 : Cond.code yX8_fullness cX8_fullness 4 (some .float) ∈ gG := gG_in 729 (by decide +kernel) (by decide +kernel)
theorem cvM_168 : gCV RL 168 yX8_fullness cX8_fullness 4 (some .float) 0 := ⟨gm_726, gm_727, gm_728, gm_92, gm_729, by decide +kernel⟩
theorem gm_1576 : Cond.methodLink RL 172 yX9_fullness ∈ gG := gG_in 1576 (by decide +kernel) (by decide +kernel)
theorem gm_1577 : Cond.instanceMethod yX9_fullness ∈ gG := gG_in 1577 (by decide +kernel) (by decide +kernel)
theorem gm_1578 : Cond.selects yX9_fullness.cls yX9_fullness yX9_fullness ∈ gG := gG_in 1578 (by decide +kernel) (by decide +kernel)
theorem gm_1579 : Cond.code yX9_fullness cX9_fullness 3 (some .float) ∈ gG := gG_in 1579 (by decide +kernel) (by decide +kernel)
theorem cvM_172 : gCV RL 172 yX9_fullness cX9_fullness 3 (some .float) 0 := ⟨gm_1576, gm_1577, gm_1578, gm_100, gm_1579, by decide +kernel⟩
def lTg : List Nat := [196, 300, 313, 326, 382, 450, 518, 586, 642, 722, 790, 858, 914, 927, 983, 996, 1009, 1050, 1093, 1106, 1174, 1230, 1243, 1299, 1355, 1451, 1519, 1587, 1655, 1711, 1767, 1811, 1847, 1903, 1916]
theorem l_sw {p : Program} {l : Launch} {e : Env} {R : Room} {s : State} {m : MethodId} {args : Array Value} {below : List Frame} {meth : Method} {c : Code} {H : Heap} {locs : List Loc} {cells slots : Nat} {Q : State → Prop} {own : String} {w : gW} {ls : Array Slot} {rest : List Value} {cc : ByteArray} {x : Int32} {u : Nat} (hM : gMD w p l s m args c cc 9 own) (d : decode cc 40 = .ok (.tableswitch 1932 0 34 #[156, 260, 273, 286, 342, 410, 478, 546, 602, 682, 750, 818, 874, 887, 943, 956, 969, 1010, 1053, 1066, 1134, 1190, 1203, 1259, 1315, 1411, 1479, 1547, 1615, 1671, 1727, 1771, 1807, 1863, 1876], 156)) (hx : x.toInt = (u : Int)) (hu : u < 35)
    (kk : W p l e R s m args below meth c H locs cells slots Q (F0 m (lTg.getD u 0) ls rest)) : W p l e R s m args below meth c H locs cells slots Q (F0 m 40 ls (.int x :: rest)) := by
  have h := (by decide +kernel : ∀ u, u < 35 → (#[156, 260, 273, 286, 342, 410, 478, 546, 602, 682, 750, 818, 874, 887, 943, 956, 969, 1010, 1053, 1066, 1134, 1190, 1203, 1259, 1315, 1411, 1479, 1547, 1615, 1671, 1727, 1771, 1807, 1863, 1876] : Array Int)[u]? = some (((lTg.getD u 0 : Nat) : Int) - 40)) u hu
  exact lv_tableIn hM.fx.1 hM.fx.2.1 d (by rw [hx]; omega) (by rw [hx]; omega) (by rw [hx, show ((u : Int) - 0).toNat = u by omega]; exact h) (by omega) kk
set_option maxHeartbeats 4000000 in
set_option maxRecDepth 100000 in
theorem lc_16 {w : gW} {p : Program} {l : Launch} {e : Env} {s : State} {m : MethodId} {below : List Frame} {meth : Method} {c : Code} {b L : Nat} {xs : Nat → Int32} {Q : State → Prop} (hM : gMD w p l s m [Value.ref b].toArray c cL_law 9 RL) (hl9 : l.stackTraces = false) (hS : gSc w s b L xs) {i : Nat} (hi : i + 6 ≤ L) {M : gMem} {K : Int} (hR : REL M K) (hK : K + 12000 ≤ 70000000) {H : Heap} {locs : List Loc} {cells slots : Nat} {ls : Array Slot} (hH : gH w gN gRm M s H locs) (hc : cells + 10 ≤ 601024 ∧ slots + 100 ≤ 7293034) (hl : lv_has ls 9 [(0, .ref b), (1, .ref (w.1 + 1)), (2, .ref (w.1 + 855)), (3, .ref (w.1 + 864)), (4, .int (gi (i : Int)))])
    (kk : ∀ H locs ls M K', gH w gN gRm M s H locs → REL M K' → K' ≤ K + 12000 → lv_has ls 9 [(0, .ref b), (1, .ref (w.1 + 1)), (2, .ref (w.1 + 855)), (3, .ref (w.1 + 864)), (4, .int (gi (i : Int)))] → W p l e room_1 s m [Value.ref b].toArray below meth c H locs (cells + 10) (slots + 100) Q (F0 m 1972 ls [])) :
    W p l e room_1 s m [Value.ref b].toArray below meth c H locs cells slots Q (F0 m 1009 ls []) := by
  obtain ⟨v, M2, e1, e2, hR2⟩ := k_waitShare hR
  refine lv_aload_n hM.fx.1 hM.fx.2.1 dL_law_1009 rfl (lv_at hl 1 rfl) ?_
  refine r_go1 (rest := []) (v := .double v) hH rfl (r_runVD (As := []) (b := 1) (t := 8) hM hH cvM_163 (mX8_waitShare gLC_main hl9 (g := gsh) (by decide +kernel) e1) ⟨by decide, by decide, by decide +kernel⟩ (by decide) rfl rfl rfl hl.1 rfl (Nat.le_of_ble_eq_true rfl) ⟨Nat.le_of_ble_eq_true rfl, Nat.le_of_ble_eq_true rfl⟩ ⟨by show cells + 0 ≤ 601024; omega, by show slots + 0 ≤ 7293034; omega⟩ dL_law_1010) (fun _ H locs hH => ?_)
  refine lv_dstore (lv' := [(5, .double (v)), (0, .ref b), (1, .ref (w.1 + 1)), (2, .ref (w.1 + 855)), (3, .ref (w.1 + 864)), (4, .int (gi (i : Int)))]) hM.fx.1 hM.fx.2.1 dL_law_1013 hl (by decide) rfl (fun ls hl => ?_)
  refine lv_aload_n hM.fx.1 hM.fx.2.1 dL_law_1015 rfl (lv_at hl 3 rfl) ?_
  refine r_go1 (rest := []) (v := .double v) hH rfl (r_runVD (As := []) (b := 855) (t := 9) hM hH cvM_167 (mX9_waitShare gLC_main hl9 (g := gsh) (by decide +kernel) e2) ⟨by decide, by decide, by decide +kernel⟩ (by decide) rfl rfl rfl hl.1 rfl (Nat.le_of_ble_eq_true rfl) ⟨Nat.le_of_ble_eq_true rfl, Nat.le_of_ble_eq_true rfl⟩ ⟨by show cells + 0 + 0 ≤ 601024; omega, by show slots + 0 + 0 ≤ 7293034; omega⟩ dL_law_1016) (fun _ H locs hH => ?_)
  refine lv_dstore (lv' := [(7, .double (v)), (5, .double (v)), (0, .ref b), (1, .ref (w.1 + 1)), (2, .ref (w.1 + 855)), (3, .ref (w.1 + 864)), (4, .int (gi (i : Int)))]) hM.fx.1 hM.fx.2.1 dL_law_1019 hl (by decide) rfl (fun ls hl => ?_)
  refine l_cmp (q := 1021) (x := v) hM (lv_at hl 1 rfl) (lv_at hl 0 rfl) dL_law_1021 dL_law_1023 dL_law_1025 dL_law_1026 dL_law_1029 dL_law_1031 dL_law_1033 dL_law_1034 dL_law_1037 dL_law_1039 dL_law_1041 dL_law_1042 dL_law_1047 (by decide) ?_
  exact W.widen (by show cells + 0 + 0 ≤ cells + 10; omega) (by show slots + 0 + 0 ≤ slots + 100; omega) (kk H locs ls M2 _ hH hR2 (by omega) (lv_sub hl [2, 3, 4, 5, 6] rfl))
set_option maxHeartbeats 4000000 in
set_option maxRecDepth 100000 in
theorem lc_17 {w : gW} {p : Program} {l : Launch} {e : Env} {s : State} {m : MethodId} {below : List Frame} {meth : Method} {c : Code} {b L : Nat} {xs : Nat → Int32} {Q : State → Prop} (hM : gMD w p l s m [Value.ref b].toArray c cL_law 9 RL) (hl9 : l.stackTraces = false) (hS : gSc w s b L xs) {i : Nat} (hi : i + 6 ≤ L) {M : gMem} {K : Int} (hR : REL M K) (hK : K + 12000 ≤ 70000000) {H : Heap} {locs : List Loc} {cells slots : Nat} {ls : Array Slot} (hH : gH w gN gRm M s H locs) (hc : cells + 10 ≤ 601024 ∧ slots + 100 ≤ 7293034) (hl : lv_has ls 9 [(0, .ref b), (1, .ref (w.1 + 1)), (2, .ref (w.1 + 855)), (3, .ref (w.1 + 864)), (4, .int (gi (i : Int)))])
    (kk : ∀ H locs ls M K', gH w gN gRm M s H locs → REL M K' → K' ≤ K + 12000 → lv_has ls 9 [(0, .ref b), (1, .ref (w.1 + 1)), (2, .ref (w.1 + 855)), (3, .ref (w.1 + 864)), (4, .int (gi (i : Int)))] → W p l e room_1 s m [Value.ref b].toArray below meth c H locs (cells + 10) (slots + 100) Q (F0 m 1972 ls [])) :
    W p l e room_1 s m [Value.ref b].toArray below meth c H locs cells slots Q (F0 m 1050 ls []) := by
  obtain ⟨v, M2, e1, e2, hR2⟩ := k_fullness hR
  have hne : vf_n64 (FP.f2d v) := full_ok hR e1
  refine lv_aload_n hM.fx.1 hM.fx.2.1 dL_law_1050 rfl (lv_at hl 1 rfl) ?_
  refine r_go1 (rest := []) (v := .float v) hH rfl (r_runVD (As := []) (b := 1) (t := 8) hM hH cvM_168 (mX8_fullness gLC_main hl9 (g := gsh) (by decide +kernel) e1) ⟨by decide, by decide, by decide +kernel⟩ (by decide) rfl rfl rfl hl.1 rfl (Nat.le_of_ble_eq_true rfl) ⟨Nat.le_of_ble_eq_true rfl, Nat.le_of_ble_eq_true rfl⟩ ⟨by show cells + 0 ≤ 601024; omega, by show slots + 0 ≤ 7293034; omega⟩ dL_law_1051) (fun _ H locs hH => ?_)
  refine lv_f2d hM.fx.1 hM.fx.2.1 dL_law_1054 hne ?_
  refine lv_dstore (lv' := [(5, .double (FP.f2d v)), (0, .ref b), (1, .ref (w.1 + 1)), (2, .ref (w.1 + 855)), (3, .ref (w.1 + 864)), (4, .int (gi (i : Int)))]) hM.fx.1 hM.fx.2.1 dL_law_1055 hl (by decide) rfl (fun ls hl => ?_)
  refine lv_aload_n hM.fx.1 hM.fx.2.1 dL_law_1057 rfl (lv_at hl 3 rfl) ?_
  refine r_go1 (rest := []) (v := .float v) hH rfl (r_runVD (As := []) (b := 855) (t := 9) hM hH cvM_172 (mX9_fullness gLC_main hl9 (g := gsh) (by decide +kernel) e2) ⟨by decide, by decide, by decide +kernel⟩ (by decide) rfl rfl rfl hl.1 rfl (Nat.le_of_ble_eq_true rfl) ⟨Nat.le_of_ble_eq_true rfl, Nat.le_of_ble_eq_true rfl⟩ ⟨by show cells + 0 + 0 ≤ 601024; omega, by show slots + 0 + 0 ≤ 7293034; omega⟩ dL_law_1058) (fun _ H locs hH => ?_)
  refine lv_f2d hM.fx.1 hM.fx.2.1 dL_law_1061 hne ?_
  refine lv_dstore (lv' := [(7, .double (FP.f2d v)), (5, .double (FP.f2d v)), (0, .ref b), (1, .ref (w.1 + 1)), (2, .ref (w.1 + 855)), (3, .ref (w.1 + 864)), (4, .int (gi (i : Int)))]) hM.fx.1 hM.fx.2.1 dL_law_1062 hl (by decide) rfl (fun ls hl => ?_)
  refine l_cmp (q := 1064) (x := FP.f2d v) hM (lv_at hl 1 rfl) (lv_at hl 0 rfl) dL_law_1064 dL_law_1066 dL_law_1068 dL_law_1069 dL_law_1072 dL_law_1074 dL_law_1076 dL_law_1077 dL_law_1080 dL_law_1082 dL_law_1084 dL_law_1085 dL_law_1090 (by decide) ?_
  exact W.widen (by show cells + 0 + 0 ≤ cells + 10; omega) (by show slots + 0 + 0 ≤ slots + 100; omega) (kk H locs ls M2 _ hH hR2 (by omega) (lv_sub hl [2, 3, 4, 5, 6] rfl))
set_option maxHeartbeats 4000000 in
set_option maxRecDepth 100000 in
theorem law_loop {w : gW} {p : Program} {l : Launch} {e : Env} {s : State} {m : MethodId} {below : List Frame} {meth : Method} {c : Code} {b L : Nat} {xs : Nat → Int32} {Q : State → Prop} (hM : gMD w p l s m [Value.ref b].toArray c cL_law 9 RL) (hl9 : l.stackTraces = false) (hS : gSc w s b L xs)
    (fin : ∀ H locs ls, gH w gN gRm (fun _ _ => 0) s H locs ∨ (∃ M, gH w gN gRm M s H locs) → W p l e room_1 s m [Value.ref b].toArray below meth c H locs 601024 7293034 Q (F0 m 1978 ls [])) :
    ∀ (k t : Nat), L < 6 * t + 6 * k + 6 → 6 * t ≤ L → ∀ (M : gMem) (K : Int) (H : Heap) (locs : List Loc) (ls : Array Slot), REL M K → K ≤ 12000 * (t : Int) → gH w gN gRm M s H locs → lv_has ls 9 [(0, .ref b), (1, .ref (w.1 + 1)), (2, .ref (w.1 + 855)), (3, .ref (w.1 + 864)), (4, .int (gi ((6 * t : Nat) : Int)))] →
      W p l e room_1 s m [Value.ref b].toArray below meth c H locs (864 + 10 * t) (40000 + 100 * t) Q (F0 m 23 ls []) := by
  have hL := hS.2.2.2
  intro k
  induction k with
  | zero =>
    intro t h1 h2 M K H locs ls hR hK hH hl
    refine lv_iload hM.fx.1 hM.fx.2.1 dL_law_23 (lv_at hl 4 rfl) ?_
    refine lv_aload_n hM.fx.1 hM.fx.2.1 dL_law_25 rfl (lv_at hl 0 rfl) ?_
    refine va_slen hM.fx.1 hM.fx.2.1 hS.1 hS.2.1 hS.2.2.1 hH.2.1 dL_law_26 ?_
    rw [show Int32.ofNat L = gi (L : Int) from rfl]
    refine lv_bipush (v := gi 6) hM.fx.1 hM.fx.2.1 dL_law_27 (by decide) ?_
    refine r_isub hM.fx dL_law_29 ?_
    rw [gwi_id (gcR (by omega))]
    refine r_icmp_gt (tgt := 1978) hM.fx (gcR (by omega)) (gcR (by omega)) dL_law_30 (by decide) (fun _ => ?_) (fun h => absurd (by omega) h)
    exact W.widen (by omega) (by omega) (fin H locs ls (Or.inr ⟨M, hH⟩))
  | succ k ih =>
    intro t h1 h2 M K H locs ls hR hK hH hl
    refine lv_iload hM.fx.1 hM.fx.2.1 dL_law_23 (lv_at hl 4 rfl) ?_
    refine lv_aload_n hM.fx.1 hM.fx.2.1 dL_law_25 rfl (lv_at hl 0 rfl) ?_
    refine va_slen hM.fx.1 hM.fx.2.1 hS.1 hS.2.1 hS.2.2.1 hH.2.1 dL_law_26 ?_
    rw [show Int32.ofNat L = gi (L : Int) from rfl]
    refine lv_bipush (v := gi 6) hM.fx.1 hM.fx.2.1 dL_law_27 (by decide) ?_
    refine r_isub hM.fx dL_law_29 ?_
    rw [gwi_id (gcR (by omega))]
    refine r_icmp_gt (tgt := 1978) hM.fx (gcR (by omega)) (gcR (by omega)) dL_law_30 (by decide) (fun _ => W.widen (by omega) (by omega) (fin H locs ls (Or.inr ⟨M, hH⟩))) (fun hgt => ?_)
    have hi : 6 * t + 6 ≤ L := by omega
    have hc : (864 + 10 * t) + 10 ≤ 601024 ∧ (40000 + 100 * t) + 100 ≤ 7293034 := by omega
    have hK2 : K + 12000 ≤ 70000000 := by omega
    have kk : ∀ H locs ls M K', gH w gN gRm M s H locs → REL M K' → K' ≤ K + 12000 → lv_has ls 9 [(0, .ref b), (1, .ref (w.1 + 1)), (2, .ref (w.1 + 855)), (3, .ref (w.1 + 864)), (4, .int (gi ((6 * t : Nat) : Int)))] → W p l e room_1 s m [Value.ref b].toArray below meth c H locs (864 + 10 * t + 10) (40000 + 100 * t + 100) Q (F0 m 1972 ls []) := fun H locs ls M K' hH hR hK' hl => by
      refine r_iinc (k := 4) (lv' := [(4, .int (gi (gwi (((6 * t : Nat) : Int) + 6)))), (0, .ref b), (1, .ref (w.1 + 1)), (2, .ref (w.1 + 855)), (3, .ref (w.1 + 864))]) hM.fx dL_law_1972 hl rfl (by decide) rfl (fun ls hl => ?_)
      refine lv_goto (tgt := 23) hM.fx.1 hM.fx.2.1 dL_law_1975 (by decide) ?_
      rw [gwi_id (gcR (by omega)), show ((6 * t : Nat) : Int) + 6 = ((6 * (t + 1) : Nat) : Int) by omega] at hl
      rw [show 864 + 10 * t + 10 = 864 + 10 * (t + 1) by omega, show 40000 + 100 * t + 100 = 40000 + 100 * (t + 1) by omega]
      exact ih (t + 1) (by omega) (by omega) M K' H locs ls hR (by omega) hH (lv_sub hl [1, 2, 3, 4, 0] rfl)
    refine lv_aload_n hM.fx.1 hM.fx.2.1 dL_law_33 rfl (lv_at hl 0 rfl) ?_
    refine lv_iload hM.fx.1 hM.fx.2.1 dL_law_34 (lv_at hl 4 rfl) ?_
    refine va_sld hM.fx.1 hM.fx.2.1 hS.1 hS.2.1 hS.2.2.1 hH.2.1 (gin (gcR (by omega)) (by omega)) dL_law_36 ?_
    refine lv_bipush (v := gi 63) hM.fx.1 hM.fx.2.1 dL_law_37 (by decide) ?_
    rw [← gi_of (xs _)]
    refine r_iand hM.fx dL_law_39 ?_
    obtain ⟨z, hz⟩ : ∃ z : Int, z = (gi (gand (xs ((gi ((6 * t : Nat) : Int)).toNatClampNeg)).toInt 63)).toInt := ⟨_, rfl⟩
    by_cases hin : 0 ≤ z ∧ z ≤ 34
    · obtain ⟨u, rfl⟩ : ∃ u : Nat, z = (u : Int) := ⟨z.toNat, by omega⟩
      have hu : u < 35 := by omega
      refine l_sw hM dL_law_40 hz.symm hu ?_
      exact (match u, hu with
        | 0, _ => lc_0 hM hl9 hS (i := 6 * t) hi hR hK2 hH hc hl kk
        | 1, _ => lc_1 hM hl9 hS (i := 6 * t) hi hR hK2 hH hc hl kk
        | 2, _ => lc_2 hM hl9 hS (i := 6 * t) hi hR hK2 hH hc hl kk
        | 3, _ => lc_3 hM hl9 hS (i := 6 * t) hi hR hK2 hH hc hl kk
        | 4, _ => lc_4 hM hl9 hS (i := 6 * t) hi hR hK2 hH hc hl kk
        | 5, _ => lc_5 hM hl9 hS (i := 6 * t) hi hR hK2 hH hc hl kk
        | 6, _ => lc_6 hM hl9 hS (i := 6 * t) hi hR hK2 hH hc hl kk
        | 7, _ => lc_7 hM hl9 hS (i := 6 * t) hi hR hK2 hH hc hl kk
        | 8, _ => lc_8 hM hl9 hS (i := 6 * t) hi hR hK2 hH hc hl kk
        | 9, _ => lc_9 hM hl9 hS (i := 6 * t) hi hR hK2 hH hc hl kk
        | 10, _ => lc_10 hM hl9 hS (i := 6 * t) hi hR hK2 hH hc hl kk
        | 11, _ => lc_11 hM hl9 hS (i := 6 * t) hi hR hK2 hH hc hl kk
        | 12, _ => lc_12 hM hl9 hS (i := 6 * t) hi hR hK2 hH hc hl kk
        | 13, _ => lc_13 hM hl9 hS (i := 6 * t) hi hR hK2 hH hc hl kk
        | 14, _ => lc_14 hM hl9 hS (i := 6 * t) hi hR hK2 hH hc hl kk
        | 15, _ => lc_15 hM hl9 hS (i := 6 * t) hi hR hK2 hH hc hl kk
        | 16, _ => lc_16 hM hl9 hS (i := 6 * t) hi hR hK2 hH hc hl kk
        | 17, _ => lc_17 hM hl9 hS (i := 6 * t) hi hR hK2 hH hc hl kk
        | 18, _ => lc_18 hM hl9 hS (i := 6 * t) hi hR hK2 hH hc hl kk
        | 19, _ => lc_19 hM hl9 hS (i := 6 * t) hi hR hK2 hH hc hl kk
        | 20, _ => lc_20 hM hl9 hS (i := 6 * t) hi hR hK2 hH hc hl kk
        | 21, _ => lc_21 hM hl9 hS (i := 6 * t) hi hR hK2 hH hc hl kk
        | 22, _ => lc_22 hM hl9 hS (i := 6 * t) hi hR hK2 hH hc hl kk
        | 23, _ => lc_23 hM hl9 hS (i := 6 * t) hi hR hK2 hH hc hl kk
        | 24, _ => lc_24 hM hl9 hS (i := 6 * t) hi hR hK2 hH hc hl kk
        | 25, _ => lc_25 hM hl9 hS (i := 6 * t) hi hR hK2 hH hc hl kk
        | 26, _ => lc_26 hM hl9 hS (i := 6 * t) hi hR hK2 hH hc hl kk
        | 27, _ => lc_27 hM hl9 hS (i := 6 * t) hi hR hK2 hH hc hl kk
        | 28, _ => lc_28 hM hl9 hS (i := 6 * t) hi hR hK2 hH hc hl kk
        | 29, _ => lc_29 hM hl9 hS (i := 6 * t) hi hR hK2 hH hc hl kk
        | 30, _ => lc_30 hM hl9 hS (i := 6 * t) hi hR hK2 hH hc hl kk
        | 31, _ => lc_31 hM hl9 hS (i := 6 * t) hi hR hK2 hH hc hl kk
        | 32, _ => lc_32 hM hl9 hS (i := 6 * t) hi hR hK2 hH hc hl kk
        | 33, _ => lc_33 hM hl9 hS (i := 6 * t) hi hR hK2 hH hc hl kk
        | 34, _ => lc_34 hM hl9 hS (i := 6 * t) hi hR hK2 hH hc hl kk
        | u + 35, h => absurd h (by omega))
    · refine lv_tableOut (tgt := 1972) hM.fx.1 hM.fx.2.1 dL_law_40 (by rw [← hz]; omega) (by decide) ?_
      exact W.widen (by omega) (by omega) (kk H locs ls M K hH hR (by omega) hl)
