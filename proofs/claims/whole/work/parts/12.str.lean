/-! The JDK's String.length and String.charAt on the words -/
section StrA
variable {p : Program} {l : Launch} {e : Env} {R : Room} {s : State} {m : MethodId} {args : Array Value} {below : List Frame} {meth : Method} {c : Code} {H : Heap} {locs : List Loc} {cells slots : Nat} {Q : State → Prop}
variable {cc : ByteArray} {nL : Nat} {own : String} {ret : Option FieldType} {w : gW} {n : Nat} {Rm : Nat → Nat → Nat} {M : gMem} {pc : Nat} {ls : Array Slot} {rest : List Value} {mc ms : Nat}
theorem gk_460 : Cond.instanceMethod yJ0_length_8abf5 ∈ gG := gG_in 460 (by decide +kernel) (by decide +kernel)
theorem gk_461 : Cond.selects RJ0 yJ0_length_8abf5 yJ0_length_8abf5 ∈ gG := gG_in 461 (by decide +kernel) (by decide +kernel)
theorem gk_462 : Cond.code yJ0_length_8abf5 cJ0_length_8abf5 1 (some .int) ∈ gG := gG_in 462 (by decide +kernel) (by decide +kernel)
theorem gk_463 : Cond.methodLink RJ0 335 yJ0_coder_7d493 ∈ gG := gG_in 463 (by decide +kernel) (by decide +kernel)
theorem gk_464 : Cond.instanceMethod yJ0_coder_7d493 ∈ gG := gG_in 464 (by decide +kernel) (by decide +kernel)
theorem gk_465 : Cond.selects RJ0 yJ0_coder_7d493 yJ0_coder_7d493 ∈ gG := gG_in 465 (by decide +kernel) (by decide +kernel)
theorem gk_466 : Cond.code yJ0_coder_7d493 cJ0_coder_7d493 1 (some .byte) ∈ gG := gG_in 466 (by decide +kernel) (by decide +kernel)
theorem gk_467 : Cond.fieldLink RJ0 38 "java/lang/String" "COMPACT_STRINGS" "Z" ∈ gG := gG_in 467 (by decide +kernel) (by decide +kernel)
theorem gk_470 : Cond.instanceMethod yJ0_charAt_5068e ∈ gG := gG_in 470 (by decide +kernel) (by decide +kernel)
theorem gk_471 : Cond.selects RJ0 yJ0_charAt_5068e yJ0_charAt_5068e ∈ gG := gG_in 471 (by decide +kernel) (by decide +kernel)
theorem gk_472 : Cond.code yJ0_charAt_5068e cJ0_charAt_5068e 2 (some .char) ∈ gG := gG_in 472 (by decide +kernel) (by decide +kernel)
theorem gk_473 : Cond.methodLink RJ0 492 yJ0_isLatin1_aae02 ∈ gG := gG_in 473 (by decide +kernel) (by decide +kernel)
theorem gk_474 : Cond.instanceMethod yJ0_isLatin1_aae02 ∈ gG := gG_in 474 (by decide +kernel) (by decide +kernel)
theorem gk_475 : Cond.selects RJ0 yJ0_isLatin1_aae02 yJ0_isLatin1_aae02 ∈ gG := gG_in 475 (by decide +kernel) (by decide +kernel)
theorem gk_476 : Cond.code yJ0_isLatin1_aae02 cJ0_isLatin1_aae02 1 (some .boolean) ∈ gG := gG_in 476 (by decide +kernel) (by decide +kernel)
theorem gk_477 : Cond.methodLink RJ0 495 yJ1_charAt_3b067 ∈ gG := gG_in 477 (by decide +kernel) (by decide +kernel)
theorem gk_478 : Cond.static yJ1_charAt_3b067 ∈ gG := gG_in 478 (by decide +kernel) (by decide +kernel)
theorem gk_479 : Cond.code yJ1_charAt_3b067 cJ1_charAt_3b067 2 (some .char) ∈ gG := gG_in 479 (by decide +kernel) (by decide +kernel)
theorem gk_480 : Cond.methodLink RJ1 9 yJ0_checkIndex_df160 ∈ gG := gG_in 480 (by decide +kernel) (by decide +kernel)
theorem gk_481 : Cond.static yJ0_checkIndex_df160 ∈ gG := gG_in 481 (by decide +kernel) (by decide +kernel)
theorem gk_482 : Cond.code yJ0_checkIndex_df160 cJ0_checkIndex_df160 2 none ∈ gG := gG_in 482 (by decide +kernel) (by decide +kernel)
theorem gk_483 : Cond.fieldLink RJ0 1053 "jdk/internal/util/Preconditions" "SIOOBE_FORMATTER" "Ljava/util/function/BiFunction;" ∈ gG := gG_in 483 (by decide +kernel) (by decide +kernel)
theorem gk_485 : Cond.methodLink RJ0 1059 yJ3_checkIndex_8e157 ∈ gG := gG_in 485 (by decide +kernel) (by decide +kernel)
theorem gk_486 : Cond.static yJ3_checkIndex_8e157 ∈ gG := gG_in 486 (by decide +kernel) (by decide +kernel)
theorem gk_487 : Cond.code yJ3_checkIndex_8e157 cJ3_checkIndex_8e157 3 (some .int) ∈ gG := gG_in 487 (by decide +kernel) (by decide +kernel)
theorem gk_106 : Cond.initialized RJ0 ∈ gG := gG_in 106 (by decide +kernel) (by decide +kernel)
theorem gk_107 : Cond.initialized RJ1 ∈ gG := gG_in 107 (by decide +kernel) (by decide +kernel)
theorem gk_108 : Cond.initialized RJ3 ∈ gG := gG_in 108 (by decide +kernel) (by decide +kernel)
theorem gk_1719 : Cond.fieldLink RJ0 9 "java/lang/String" "value" "[B" ∈ gG := gG_in 1719 (by decide +kernel) (by decide +kernel)
theorem gk_1720 : Cond.fieldLink RJ0 15 "java/lang/String" "coder" "B" ∈ gG := gG_in 1720 (by decide +kernel) (by decide +kernel)
theorem cvs_coder : gCV RJ0 335 yJ0_coder_7d493 cJ0_coder_7d493 1 (some .byte) 0 := ⟨gk_463, gk_464, gk_465, gk_106, gk_466, by decide +kernel, by decide +kernel, by decide +kernel⟩
theorem cvs_latin : gCV RJ0 492 yJ0_isLatin1_aae02 cJ0_isLatin1_aae02 1 (some .boolean) 0 := ⟨gk_473, gk_474, gk_475, gk_106, gk_476, by decide +kernel, by decide +kernel, by decide +kernel⟩
theorem css_lat : gCS RJ0 495 yJ1_charAt_3b067 cJ1_charAt_3b067 2 (some .char) 2 := ⟨gk_477, gk_478, gk_107, gk_479, by decide +kernel, by decide +kernel, by decide +kernel⟩
theorem css_chk : gCS RJ1 9 yJ0_checkIndex_df160 cJ0_checkIndex_df160 2 none 2 := ⟨gk_480, gk_481, gk_106, gk_482, by decide +kernel, by decide +kernel, by decide +kernel⟩
theorem css_pre : gCS RJ0 1059 yJ3_checkIndex_8e157 cJ3_checkIndex_8e157 3 (some .int) 3 := ⟨gk_485, gk_486, gk_108, gk_487, by decide +kernel, by decide +kernel, by decide +kernel⟩
theorem gch_all : ∀ k : Nat, k < 128 → gi (k : Int) &&& gi 255 = gi k ∧ ((gi k).toUInt32 % 65536).toInt32 = gi k ∧ gi (k : Int) >>> (gi 0 &&& 31) = gi k := by decide +kernel
theorem gtx_lt (i k : Nat) : 0 ≤ (gtx i).getD k 0 ∧ (gtx i).getD k 0 < 128 := by
  rcases gtx_mem (i := i) with h | h
  · have h1 := List.all_eq_true.mp gtx_all _ h
    simp only [Bool.and_eq_true, decide_eq_true_eq] at h1
    rw [List.getD_eq_getElem?_getD]
    cases h2 : (gtx i)[k]? with
    | none => exact ⟨by decide, by decide⟩
    | some x =>
      have h3 := List.all_eq_true.mp h1.2 x (List.mem_of_getElem? h2)
      simp only [decide_eq_true_eq] at h3
      exact h3
  · rw [h]; exact ⟨by simp, by simp⟩
theorem gtx_l100 (i : Nat) : (gtx i).length < 100 := by
  rcases gtx_mem (i := i) with h | h
  · have h1 := List.all_eq_true.mp gtx_all _ h
    simp only [Bool.and_eq_true, decide_eq_true_eq] at h1
    exact h1.1
  · rw [h]; decide
theorem r_nret {ty : FieldType} (hM : gMC w p l s m args meth c cc nL own (some ty)) (hH : gH w n Rm M s H locs) {v : Int} (hn : narrow ty (.int (gi v)) = .int (gi v)) {P : Prop} (hP : P) (hc : cells ≤ mc ∧ slots ≤ ms) (d : decode cc pc = .ok (.ireturn, 1)) : W p l e R s m args below meth c H locs cells slots (gQ w n Rm below args s mc ms (.inr (some (.int (gi v)))) M P) (F0 m pc ls [.int (gi v)]) :=
  W.widen hc.1 hc.2 (vx_ret (W.zret hM.fx.1 hM.fx.2.1 hM.rt hn (fun t ht _ => ⟨hP, _, rfl, rfl, ⟨by rw [ht]; exact hH.1, hH.2.2⟩, hH.2.1.F ht⟩) hH.2.1.2.2 d hM.lk))
theorem r_gets {C nm ds : String} {v : Value} {index : Nat} (hM : gMC w p l s m args meth c cc nL own ret) (hH : gH w n Rm M s H locs) (hZ : va_Z C nm ds v (gA w) s s.heap) (hw : Cond.fieldLink own index C nm ds ∈ gG) (d : decode cc pc = .ok (.getstatic index, 3))
    (k : W p l e R s m args below meth c H locs cells slots Q (F0 m (pc + 3) ls (v :: rest))) : W p l e R s m args below meth c H locs cells slots Q (F0 m pc ls rest) :=
  va_gets hM.fx.1 hM.fx.2.1 hZ hH.2.1 hM.fx.2.2.2.1 (hM.fx.2.2.2.2 _ hw) (fun _ z => z) d k
theorem r_sval {t : Nat} (ht : gtx t ≠ []) (hM : gMC w p l s m args meth c cc nL RJ0 ret) (hH : gH w n Rm M s H locs) (d : decode cc pc = .ok (.getfield 9, 3))
    (k : W p l e R s m args below meth c H locs cells slots Q (F0 m (pc + 3) ls (.ref (w.2.2.2.2.2 t) :: rest))) : W p l e R s m args below meth c H locs cells slots Q (F0 m pc ls (.ref (w.2.2.2.2.1 t) :: rest)) :=
  vk_getf hM.fx.1 hM.fx.2.1 (hM.ff.2.2.1 t ht).2.2.1 hH.2.1 hM.fx.2.2.2.1 (hM.fx.2.2.2.2 _ gk_1719) (fun _ z => z) d k
theorem r_scod {t : Nat} (ht : gtx t ≠ []) (hM : gMC w p l s m args meth c cc nL RJ0 ret) (hH : gH w n Rm M s H locs) (d : decode cc pc = .ok (.getfield 15, 3))
    (k : W p l e R s m args below meth c H locs cells slots Q (F0 m (pc + 3) ls (.int (gi 0) :: rest))) : W p l e R s m args below meth c H locs cells slots Q (F0 m pc ls (.ref (w.2.2.2.2.1 t) :: rest)) :=
  vk_getf hM.fx.1 hM.fx.2.1 (hM.ff.2.2.1 t ht).2.1 hH.2.1 hM.fx.2.2.2.1 (hM.fx.2.2.2.2 _ gk_1720) (fun _ z => z) d k
theorem r_runW {y : MethodName} {bytes : ByteArray} {maxL np idx fr lo mc' ms' t : Nat} {ry : Option FieldType} {As : List Value} {oc : gOc} {M' : gMem} {P : Prop} {st : List Value} (ht : gtx t ≠ [])
    (hM : gMC w p l s m args meth c cc nL own ret) (hH : gH w n Rm M s H locs) (cv : gCV own idx y bytes maxL ry np) (hy : gMT w n Rm l y bytes maxL ry fr lo mc' ms' (gsR w t :: As) M oc M' P) (hC : y.cls = "java/lang/String")
    (hn : As.length = np) (hsz : ls.size = nL) (hst : st = As.reverse ++ gsR w t :: rest) (hW : (rest.map fun v => v.category).sum ≤ 8) (hR : fr + 1 ≤ R.frames ∧ 8 + (maxL + 11) + lo ≤ R.locals) (hf : cells + mc' ≤ R.cells ∧ slots + ms' ≤ R.slots) (d : decode cc pc = .ok (.invokevirtual idx, 3)) :
    vx_Run p l e R s m args below meth c H locs cells slots mc' ms' (F0 m pc ls st) rest (gRQ w n Rm oc M' P (gsR w t :: As).toArray) (gXQ w n Rm oc M') (gA w) := by
  have hg : GoodIn gG (wsV own idx y.cls y (.code y bytes maxL ry :: gG)) := by
    intro x hx
    simp only [wsV, List.cons_append, List.nil_append, List.mem_cons] at hx
    rcases hx with rfl | rfl | rfl | rfl | rfl | hx
    · exact ⟨cv.1, gG_good _ cv.1⟩
    · exact ⟨cv.2.1, gG_good _ cv.2.1⟩
    · exact ⟨cv.2.2.1, gG_good _ cv.2.2.1⟩
    · exact ⟨cv.2.2.2.1, gG_good _ cv.2.2.2.1⟩
    · exact ⟨cv.2.2.2.2.1, gG_good _ cv.2.2.2.2.1⟩
    · exact ⟨hx, gG_good _ hx⟩
  refine vx_runV (As := As) (rest := rest) hM.fx hy (cwV np hM.fx.2.2.2.2 hg rfl rfl rfl ⟨rfl, cv.2.2.2.2.2⟩ hR) ⟨gblind, ?_, fun U hU hW' => ⟨rfl, gWD.at hM.kf hM.ff hH hU hW'⟩⟩ rfl hn hsz hst (lv_room hW) d hf
  rw [hC]
  exact va_Orecv (hM.ff.2.2.1 t ht).1 hH.2.1
theorem mJ_coder {t : Nat} (hl9 : l.stackTraces = false) (ht : gtx t ≠ []) : gMT w n Rm l yJ0_coder_7d493 cJ0_coder_7d493 1 (some .byte) 1 60 0 0 [gsR w t] M (.inr (some (.int (gi 0)))) M True := by
  refine gMT.of hl9 (by decide +kernel) (Nat.le_of_ble_eq_true rfl) ?_
  intro p e s m below meth c hM hH ls hl
  have hM : gMC w p l s m ([gsR w t] : List Value).toArray meth c cJ0_coder_7d493 1 RJ0 (some .byte) := hM
  have hl : lv_has ls 1 [(0, gsR w t)] := hl
  refine r_gets hM hH hM.ff.2.2.2.1 gk_467 dJ0_coder_7d493_0 ?_
  refine r_if_eq (x := 1) (tgt := 13) hM.fx (gcR (k := 1) (by decide)) dJ0_coder_7d493_3 (by decide) (fun h => absurd h (by decide)) (fun _ => ?_)
  refine lv_aload_n hM.fx.1 hM.fx.2.1 dJ0_coder_7d493_6 rfl (lv_at hl 0 rfl) ?_
  refine r_scod ht hM hH dJ0_coder_7d493_7 ?_
  refine lv_goto (tgt := 14) hM.fx.1 hM.fx.2.1 dJ0_coder_7d493_10 (by decide) ?_
  exact r_nret hM hH rfl trivial ⟨Nat.le_of_ble_eq_true rfl, Nat.le_of_ble_eq_true rfl⟩ dJ0_coder_7d493_14
theorem mJ_latin {t : Nat} (hl9 : l.stackTraces = false) (ht : gtx t ≠ []) : gMT w n Rm l yJ0_isLatin1_aae02 cJ0_isLatin1_aae02 1 (some .boolean) 1 60 0 0 [gsR w t] M (.inr (some (.int (gi 1)))) M True := by
  refine gMT.of hl9 (by decide +kernel) (Nat.le_of_ble_eq_true rfl) ?_
  intro p e s m below meth c hM hH ls hl
  have hM : gMC w p l s m ([gsR w t] : List Value).toArray meth c cJ0_isLatin1_aae02 1 RJ0 (some .boolean) := hM
  have hl : lv_has ls 1 [(0, gsR w t)] := hl
  refine r_gets hM hH hM.ff.2.2.2.1 gk_467 dJ0_isLatin1_aae02_0 ?_
  refine r_if_eq (x := 1) (tgt := 17) hM.fx (gcR (k := 1) (by decide)) dJ0_isLatin1_aae02_3 (by decide) (fun h => absurd h (by decide)) (fun _ => ?_)
  refine lv_aload_n hM.fx.1 hM.fx.2.1 dJ0_isLatin1_aae02_6 rfl (lv_at hl 0 rfl) ?_
  refine r_scod ht hM hH dJ0_isLatin1_aae02_7 ?_
  refine r_if_ne (x := 0) (tgt := 17) hM.fx (gcR (k := 0) (by decide)) dJ0_isLatin1_aae02_10 (by decide) (fun h => absurd rfl h) (fun _ => ?_)
  refine lv_iconst (v := gi 1) hM.fx.1 hM.fx.2.1 dJ0_isLatin1_aae02_13 rfl ?_
  refine lv_goto (tgt := 18) hM.fx.1 hM.fx.2.1 dJ0_isLatin1_aae02_14 (by decide) ?_
  exact r_zret hM hH (Or.inr rfl) trivial ⟨Nat.le_of_ble_eq_true rfl, Nat.le_of_ble_eq_true rfl⟩ dJ0_isLatin1_aae02_18
theorem mJ_length {t : Nat} (hl9 : l.stackTraces = false) (ht : gtx t ≠ []) : gMT w n Rm l yJ0_length_8abf5 cJ0_length_8abf5 1 (some .int) 2 90 0 0 [gsR w t] M (.inr (some (.int (gi ((gtx t).length : Int))))) M True := by
  refine gMT.of hl9 (by decide +kernel) (Nat.le_of_ble_eq_true rfl) ?_
  intro p e s m below meth c hM hH ls hl
  have hM : gMC w p l s m ([gsR w t] : List Value).toArray meth c cJ0_length_8abf5 1 RJ0 (some .int) := hM
  have hl : lv_has ls 1 [(0, gsR w t)] := hl
  refine lv_aload_n hM.fx.1 hM.fx.2.1 dJ0_length_8abf5_0 rfl (lv_at hl 0 rfl) ?_
  refine r_sval ht hM hH dJ0_length_8abf5_1 ?_
  refine va_tlen (v := gi ((gtx t).length : Int)) hM.fx.1 hM.fx.2.1 (hM.ff.2.2.1 t ht).2.2.2 hH.2.1 rfl dJ0_length_8abf5_4 ?_
  refine lv_aload_n hM.fx.1 hM.fx.2.1 dJ0_length_8abf5_5 rfl (lv_at hl 0 rfl) ?_
  refine r_go1 (v := .int (gi 0)) hH rfl (r_runW (As := []) ht hM hH cvs_coder (mJ_coder hM.ns ht) rfl rfl hl.1 rfl (Nat.le_of_ble_eq_true rfl) ⟨Nat.le_of_ble_eq_true rfl, Nat.le_of_ble_eq_true rfl⟩ ⟨Nat.le_of_ble_eq_true rfl, Nat.le_of_ble_eq_true rfl⟩ dJ0_length_8abf5_6) (fun _ H1 locs1 hH => ?_)
  refine r_ishr hM.fx dJ0_length_8abf5_9 ?_
  have h1 : gi (gshr ((gtx t).length : Int) 0) = gi ((gtx t).length : Int) := by
    rw [← gshr_i]
    exact (gch_all _ (by have := gtx_l100 t; omega)).2.2
  rw [h1]
  exact r_iret hM hH trivial ⟨Nat.le_of_ble_eq_true rfl, Nat.le_of_ble_eq_true rfl⟩ dJ0_length_8abf5_10
theorem mJ_pre {i k : Int} {v : Value} (hv : v = .null ∨ ∃ t : Nat, v = .ref t) (hl9 : l.stackTraces = false) (hi : gRI i) (hk : gRI k) (h : 0 ≤ i ∧ i < k) : gMT w n Rm l yJ3_checkIndex_8e157 cJ3_checkIndex_8e157 3 (some .int) 1 60 0 0 [.int (gi i), .int (gi k), v] M (.inr (some (.int (gi i)))) M True := by
  refine gMT.of hl9 (by decide +kernel) (by rcases hv with rfl | ⟨t, rfl⟩ <;> exact Nat.le_of_ble_eq_true rfl) ?_
  intro p e s m below meth c hM hH ls hl
  have hM : gMC w p l s m ([.int (gi i), .int (gi k), v] : List Value).toArray meth c cJ3_checkIndex_8e157 3 RJ3 (some .int) := hM
  have hl : lv_has ls 3 [(0, .int (gi i)), (1, .int (gi k)), (2, v)] := hl
  refine lv_iload_n hM.fx.1 hM.fx.2.1 dJ3_checkIndex_8e157_0 rfl (lv_at hl 0 rfl) ?_
  refine r_if_lt (tgt := 9) hM.fx hi dJ3_checkIndex_8e157_1 (by decide) (fun q => absurd q (by omega)) (fun _ => ?_)
  refine lv_iload_n hM.fx.1 hM.fx.2.1 dJ3_checkIndex_8e157_4 rfl (lv_at hl 0 rfl) ?_
  refine lv_iload_n hM.fx.1 hM.fx.2.1 dJ3_checkIndex_8e157_5 rfl (lv_at hl 1 rfl) ?_
  refine r_icmp_lt (tgt := 16) hM.fx hi hk dJ3_checkIndex_8e157_6 (by decide) (fun _ => ?_) (fun q => absurd h.2 q)
  refine lv_iload_n hM.fx.1 hM.fx.2.1 dJ3_checkIndex_8e157_16 rfl (lv_at hl 0 rfl) ?_
  exact r_iret hM hH trivial ⟨Nat.le_of_ble_eq_true rfl, Nat.le_of_ble_eq_true rfl⟩ dJ3_checkIndex_8e157_17
theorem mJ_chk {i k : Int} (hl9 : l.stackTraces = false) (hi : gRI i) (hk : gRI k) (h : 0 ≤ i ∧ i < k) : gMT w n Rm l yJ0_checkIndex_df160 cJ0_checkIndex_df160 2 none 2 90 0 0 [.int (gi i), .int (gi k)] M (.inr none) M True := by
  refine gMT.of hl9 (by decide +kernel) (Nat.le_of_ble_eq_true rfl) ?_
  intro p e s m below meth c hM hH ls hl
  have hM : gMC w p l s m ([.int (gi i), .int (gi k)] : List Value).toArray meth c cJ0_checkIndex_df160 2 RJ0 none := hM
  have hl : lv_has ls 2 [(0, .int (gi i)), (1, .int (gi k))] := hl
  refine lv_iload_n hM.fx.1 hM.fx.2.1 dJ0_checkIndex_df160_0 rfl (lv_at hl 0 rfl) ?_
  refine lv_iload_n hM.fx.1 hM.fx.2.1 dJ0_checkIndex_df160_1 rfl (lv_at hl 1 rfl) ?_
  obtain ⟨v, hv0, hv⟩ : ∃ v : Value, (v = .null ∨ ∃ t : Nat, v = .ref t) ∧ va_Z "jdk/internal/util/Preconditions" "SIOOBE_FORMATTER" "Ljava/util/function/BiFunction;" v (gA w) s s.heap := by
    rcases hM.ff.2.2.2.2.1 with q | ⟨t, q⟩
    · exact ⟨.null, Or.inl rfl, q⟩
    · exact ⟨.ref t, Or.inr ⟨t, rfl⟩, q⟩
  refine r_gets hM hH hv gk_483 dJ0_checkIndex_df160_2 ?_
  refine r_go1 (v := .int (gi i)) (rest := []) hH rfl (r_runS (As := [.int (gi i), .int (gi k), v]) hM hH css_pre (mJ_pre hv0 hM.ns hi hk h) rfl hl.1 rfl (Nat.le_of_ble_eq_true rfl) ⟨Nat.le_of_ble_eq_true rfl, Nat.le_of_ble_eq_true rfl⟩ ⟨Nat.le_of_ble_eq_true rfl, Nat.le_of_ble_eq_true rfl⟩ dJ0_checkIndex_df160_5) (fun _ H1 locs1 hH => ?_)
  refine lv_pop hM.fx.1 hM.fx.2.1 dJ0_checkIndex_df160_8 rfl ?_
  exact r_vret hM hH trivial ⟨Nat.le_of_ble_eq_true rfl, Nat.le_of_ble_eq_true rfl⟩ dJ0_checkIndex_df160_9
theorem mJ_lat {i : Int} {t : Nat} (hl9 : l.stackTraces = false) (ht : gtx t ≠ []) (hi : gRI i) (h : 0 ≤ i ∧ i < ((gtx t).length : Int)) : gMT w n Rm l yJ1_charAt_3b067 cJ1_charAt_3b067 2 (some .char) 3 120 0 0 [.ref (w.2.2.2.2.2 t), .int (gi i)] M (.inr (some (.int (gi ((gtx t).getD i.toNat 0))))) M True := by
  refine gMT.of hl9 (by decide +kernel) (Nat.le_of_ble_eq_true rfl) ?_
  intro p e s m below meth c hM hH ls hl
  have hM : gMC w p l s m ([.ref (w.2.2.2.2.2 t), .int (gi i)] : List Value).toArray meth c cJ1_charAt_3b067 2 RJ1 (some .char) := hM
  have hl : lv_has ls 2 [(0, .ref (w.2.2.2.2.2 t)), (1, .int (gi i))] := hl
  have h100 := gtx_l100 t
  obtain ⟨z, hz⟩ : ∃ z : Nat, (gtx t).getD i.toNat 0 = (z : Int) ∧ z < 128 := ⟨((gtx t).getD i.toNat 0).toNat, by have := gtx_lt t i.toNat; omega, by have := gtx_lt t i.toNat; omega⟩
  have hq := gch_all z hz.2
  refine lv_iload_n hM.fx.1 hM.fx.2.1 dJ1_charAt_3b067_0 rfl (lv_at hl 1 rfl) ?_
  refine lv_aload_n hM.fx.1 hM.fx.2.1 dJ1_charAt_3b067_1 rfl (lv_at hl 0 rfl) ?_
  refine va_tlen (v := gi ((gtx t).length : Int)) hM.fx.1 hM.fx.2.1 (hM.ff.2.2.1 t ht).2.2.2 hH.2.1 rfl dJ1_charAt_3b067_2 ?_
  refine r_go0 (rest := []) hH rfl (r_runS (As := [.int (gi i), .int (gi ((gtx t).length : Int))]) hM hH css_chk (mJ_chk hM.ns hi (gtx_len t) h) rfl hl.1 rfl (Nat.le_of_ble_eq_true rfl) ⟨Nat.le_of_ble_eq_true rfl, Nat.le_of_ble_eq_true rfl⟩ ⟨Nat.le_of_ble_eq_true rfl, Nat.le_of_ble_eq_true rfl⟩ dJ1_charAt_3b067_3) (fun _ H1 locs1 hH => ?_)
  refine lv_aload_n hM.fx.1 hM.fx.2.1 dJ1_charAt_3b067_6 rfl (lv_at hl 0 rfl) ?_
  refine lv_iload_n hM.fx.1 hM.fx.2.1 dJ1_charAt_3b067_7 rfl (lv_at hl 1 rfl) ?_
  refine va_tb (v := .int (gi (z : Int))) hM.fx.1 hM.fx.2.1 (hM.ff.2.2.1 t ht).2.2.2 hH.2.1 (gin hi h) (by rw [gclamp hi, hz.1]) dJ1_charAt_3b067_8 ?_
  refine lv_sipush (v := gi (255)) hM.fx.1 hM.fx.2.1 dJ1_charAt_3b067_9 (by decide) ?_
  refine r_iand hM.fx dJ1_charAt_3b067_12 ?_
  rw [← gand_i, hq.1]
  refine lv_i2c (v := gi (z : Int)) hM.fx.1 hM.fx.2.1 dJ1_charAt_3b067_13 hq.2.1 ?_
  rw [hz.1]
  refine r_nret hM hH ?_ trivial ⟨Nat.le_of_ble_eq_true rfl, Nat.le_of_ble_eq_true rfl⟩ dJ1_charAt_3b067_14
  show Value.int _ = Value.int _
  exact congrArg Value.int hq.2.1
theorem mJ_charAt {i : Int} {t : Nat} (hl9 : l.stackTraces = false) (ht : gtx t ≠ []) (hi : gRI i) (h : 0 ≤ i ∧ i < ((gtx t).length : Int)) : gMT w n Rm l yJ0_charAt_5068e cJ0_charAt_5068e 2 (some .char) 4 150 0 0 [gsR w t, .int (gi i)] M (.inr (some (.int (gi ((gtx t).getD i.toNat 0))))) M True := by
  refine gMT.of hl9 (by decide +kernel) (Nat.le_of_ble_eq_true rfl) ?_
  intro p e s m below meth c hM hH ls hl
  have hM : gMC w p l s m ([gsR w t, .int (gi i)] : List Value).toArray meth c cJ0_charAt_5068e 2 RJ0 (some .char) := hM
  have hl : lv_has ls 2 [(0, gsR w t), (1, .int (gi i))] := hl
  obtain ⟨z, hz⟩ : ∃ z : Nat, (gtx t).getD i.toNat 0 = (z : Int) ∧ z < 128 := ⟨((gtx t).getD i.toNat 0).toNat, by have := gtx_lt t i.toNat; omega, by have := gtx_lt t i.toNat; omega⟩
  have hq := gch_all z hz.2
  refine lv_aload_n hM.fx.1 hM.fx.2.1 dJ0_charAt_5068e_0 rfl (lv_at hl 0 rfl) ?_
  refine r_go1 (v := .int (gi 1)) (rest := []) hH rfl (r_runW (As := []) ht hM hH cvs_latin (mJ_latin hM.ns ht) rfl rfl hl.1 rfl (Nat.le_of_ble_eq_true rfl) ⟨Nat.le_of_ble_eq_true rfl, Nat.le_of_ble_eq_true rfl⟩ ⟨Nat.le_of_ble_eq_true rfl, Nat.le_of_ble_eq_true rfl⟩ dJ0_charAt_5068e_1) (fun _ H1 locs1 hH => ?_)
  refine r_if_eq (x := 1) (tgt := 16) hM.fx (gcR (k := 1) (by decide)) dJ0_charAt_5068e_4 (by decide) (fun h => absurd h (by decide)) (fun _ => ?_)
  refine lv_aload_n hM.fx.1 hM.fx.2.1 dJ0_charAt_5068e_7 rfl (lv_at hl 0 rfl) ?_
  refine r_sval ht hM hH dJ0_charAt_5068e_8 ?_
  refine lv_iload_n hM.fx.1 hM.fx.2.1 dJ0_charAt_5068e_11 rfl (lv_at hl 1 rfl) ?_
  refine r_go1 (v := .int (gi ((gtx t).getD i.toNat 0))) (rest := []) hH rfl (r_runS (As := [.ref (w.2.2.2.2.2 t), .int (gi i)]) hM hH css_lat (mJ_lat hM.ns ht hi h) rfl hl.1 rfl (Nat.le_of_ble_eq_true rfl) ⟨Nat.le_of_ble_eq_true rfl, Nat.le_of_ble_eq_true rfl⟩ ⟨Nat.le_of_ble_eq_true rfl, Nat.le_of_ble_eq_true rfl⟩ dJ0_charAt_5068e_12) (fun _ H1 locs1 hH => ?_)
  rw [hz.1]
  refine r_nret hM hH ?_ trivial ⟨Nat.le_of_ble_eq_true rfl, Nat.le_of_ble_eq_true rfl⟩ dJ0_charAt_5068e_15
  show Value.int _ = Value.int _
  exact congrArg Value.int hq.2.1
theorem cvs_len {index : Nat} (hw : Cond.methodLink own index yJ0_length_8abf5 ∈ gG) : gCV own index yJ0_length_8abf5 cJ0_length_8abf5 1 (some .int) 0 := ⟨hw, gk_460, gk_461, gk_106, gk_462, by decide +kernel, by decide +kernel, by decide +kernel⟩
theorem cvs_chr {index : Nat} (hw : Cond.methodLink own index yJ0_charAt_5068e ∈ gG) : gCV own index yJ0_charAt_5068e cJ0_charAt_5068e 2 (some .char) 1 := ⟨hw, gk_470, gk_471, gk_106, gk_472, by decide +kernel, by decide +kernel, by decide +kernel⟩
theorem r_slen (hM : gMC w p l s m args meth c cc nL own ret) (hH : gH w n Rm M s H locs) (hsz : ls.size = nL) {index t : Nat} (hw : Cond.methodLink own index yJ0_length_8abf5 ∈ gG) (ht : gtx t ≠ []) (hR : 8 ≤ R.frames ∧ 250 ≤ R.locals) (hW : (rest.map fun v => v.category).sum ≤ 8) (hcs : cells ≤ R.cells ∧ slots ≤ R.slots) (d : decode cc pc = .ok (.invokevirtual index, 3))
    (k : ∀ H1 locs1, gH w n Rm M s H1 locs1 → W p l e R s m args below meth c H1 locs1 cells slots Q (F0 m (pc + 3) ls (.int (gi ((gtx t).length : Int)) :: rest))) : W p l e R s m args below meth c H locs cells slots Q (F0 m pc ls (gsR w t :: rest)) :=
  r_go1 (v := .int (gi ((gtx t).length : Int))) hH rfl (r_runW (As := []) ht hM hH (cvs_len hw) (mJ_length hM.ns ht) rfl rfl hsz rfl hW ⟨by omega, by omega⟩ ⟨hcs.1, hcs.2⟩ d) (fun _ H1 locs1 hH => k H1 locs1 hH)
theorem r_schar (hM : gMC w p l s m args meth c cc nL own ret) (hH : gH w n Rm M s H locs) (hsz : ls.size = nL) {index t : Nat} {i : Int} (hw : Cond.methodLink own index yJ0_charAt_5068e ∈ gG) (ht : gtx t ≠ []) (hi : gRI i) (h0 : 0 ≤ i ∧ i < ((gtx t).length : Int)) (hR : 8 ≤ R.frames ∧ 250 ≤ R.locals) (hW : (rest.map fun v => v.category).sum ≤ 8) (hcs : cells ≤ R.cells ∧ slots ≤ R.slots) (d : decode cc pc = .ok (.invokevirtual index, 3))
    (k : ∀ H1 locs1, gH w n Rm M s H1 locs1 → W p l e R s m args below meth c H1 locs1 cells slots Q (F0 m (pc + 3) ls (.int (gi ((gtx t).getD i.toNat 0)) :: rest))) : W p l e R s m args below meth c H locs cells slots Q (F0 m pc ls (.int (gi i) :: gsR w t :: rest)) :=
  r_go1 (v := .int (gi ((gtx t).getD i.toNat 0))) hH rfl (r_runW (As := [.int (gi i)]) ht hM hH (cvs_chr hw) (mJ_charAt hM.ns ht hi h0) rfl rfl hsz rfl hW ⟨by omega, by omega⟩ ⟨hcs.1, hcs.2⟩ d) (fun _ H1 locs1 hH => k H1 locs1 hH)
end StrA
