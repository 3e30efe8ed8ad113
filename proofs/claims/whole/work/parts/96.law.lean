/-! The law's cases, one by one (printed by wip/gen/mk_law.py) -/
def sx (xs : Nat → Int32) (i k : Nat) : Int := (xs (i + k)).toInt
def sb (xs : Nat → Int32) (i k : Nat) : Int := if sx xs i k = 0 then 0 else 1
theorem sx_r (xs : Nat → Int32) (i k : Nat) : gRI (sx xs i k) := gi_r _
theorem sb_r (xs : Nat → Int32) (i k : Nat) : gRI (sb xs i k) := by unfold sb; split <;> exact ⟨by decide, by decide⟩
theorem gWm_out (res : Nat ⊕ Int) (M : gMem) : gOut M (gWm res M) := by
  cases res with
  | inl e => exact gOut.rf M
  | inr z => exact gOut.up M z
/-- the script, as it lies below -/
def gSc (w : gW) (s : State) (b L : Nat) (xs : Nat → Int32) : Prop := va_X b L xs s s.heap ∧ b < s.heap.size ∧ ¬ gA w b ∧ L ≤ 3072
def gCW (own : String) (idx : Nat) (y : MethodName) (bytes : ByteArray) (maxL : Nat) (hh : List (Nat × Nat × Nat × Nat)) (np : Nat) : Prop := Cond.methodLink own idx y ∈ gG ∧ Cond.static y ∈ gG ∧ Cond.initialized y.cls ∈ gG ∧ Cond.codeWith y bytes maxL (some .int) hh ∈ gG ∧ (y.cls ≠ "java/lang/invoke/MethodHandle" ∧ y.cls ≠ "java/lang/invoke/VarHandle" ∧ (parseMethodDescriptor y.desc).map (fun d => d.parameters.length) = some np)
theorem qThr_r (c : Nat) (res : Nat ⊕ Int) : gRI (qThr c res) := by
  cases res with
  | inl e => unfold qThr; dsimp only; split <;> exact ⟨by decide, by decide⟩
  | inr z => exact ⟨by show (-2147483648 : Int) ≤ 0; decide, by show (0 : Int) < 2147483648; decide⟩
section LawRows
variable {p : Program} {l : Launch} {e : Env} {R : Room} {s : State} {m : MethodId} {args : Array Value} {below : List Frame} {meth : Method} {c : Code} {H : Heap} {locs : List Loc} {cells slots : Nat} {Q : State → Prop}
variable {cc : ByteArray} {nL : Nat} {own : String} {ret : Option FieldType} {w : gW} {n : Nat} {Rm : Nat → Nat → Nat} {M : gMem} {pc : Nat} {ls : Array Slot} {rest : List Value} {mc ms : Nat}
theorem r_runX {y : MethodName} {bytes : ByteArray} {maxL np idx fr lo mc' ms' : Nat} {hh : List (Nat × Nat × Nat × Nat)} {As : List Value} {v : Int} {M' : gMem} {P : Prop} {st : List Value}
    (hM : gMD w p l s m args c cc nL own) (hH : gH w n Rm M s H locs) (cv : gCW own idx y bytes maxL hh np) (hy : gLT w n Rm l y bytes maxL hh fr lo mc' ms' As M v M' P)
    (hn : As.length = np) (hsz : ls.size = nL) (hst : st = As.reverse ++ rest) (hW : (rest.map fun v => v.category).sum ≤ 8) (hR : fr + 1 ≤ R.frames ∧ 8 + (maxL + 11) + lo ≤ R.locals) (hf : cells + mc' ≤ R.cells ∧ slots + ms' ≤ R.slots) (d : decode cc pc = .ok (.invokestatic idx, 3)) :
    vx_Run p l e R s m args below meth c H locs cells slots mc' ms' (F0 m pc ls st) rest (gRQ w n Rm (.inr (some (.int (gi v)))) M' P As.toArray) (gXQ w n Rm (.inr (some (.int (gi v)))) M') (gA w) := by
  have ok := hM.fx.2.2.2.2
  have hg : GoodIn gG (va_wsS own idx y (.codeWith y bytes maxL (some .int) hh :: gG)) := by
    intro x hx
    simp only [va_wsS, List.cons_append, List.nil_append, List.mem_cons] at hx
    rcases hx with rfl | rfl | rfl | rfl | hx
    · exact ⟨cv.1, gG_good _ cv.1⟩
    · exact ⟨cv.2.1, gG_good _ cv.2.1⟩
    · exact ⟨cv.2.2.1, gG_good _ cv.2.2.1⟩
    · exact ⟨cv.2.2.2.1, gG_good _ cv.2.2.2.1⟩
    · exact ⟨hx, gG_good _ hx⟩
  exact vx_runSX (As := As) (rest := rest) hM.fx hy (vx_cwSW np ok hg rfl rfl rfl cv.2.2.2.2 hR) ⟨fun a U g mk h => ⟨h.1, gWD.blind h.2.1, gNC.moved (u := U) (U := U.calling g mk a) (Vm.Alike.refl U.vm) h.2.2⟩, fun U hU hW' => ⟨rfl, gWD.at hM.kf hM.ff hH hU hW', hM.nc.moved hW'.alike⟩⟩ rfl hn hsz hst (lv_room hW) d hf
/-- the script's int behind i -/
theorem l_arg {b L : Nat} {xs : Nat → Int32} {i k : Nat} (hM : gMD w p l s m args c cc nL own) (hS : gSc w s b L xs) (hi : i + 6 ≤ L) (hk : k < 6) (h0 : ls[0]? = some (.val (.ref b))) (h4 : ls[4]? = some (.val (.int (gi (i : Int)))))
    (d0 : decode cc pc = .ok (.aload_n 0, 1)) (d1 : decode cc (pc + 1) = .ok (.iload 4, 2)) (d3 : decode cc (pc + 3) = .ok (.iconst k, 1)) (d4 : decode cc (pc + 4) = .ok (.iadd, 1)) (d5 : decode cc (pc + 5) = .ok (.iaload, 1)) (hH : gH w n Rm M s H locs)
    (kk : W p l e R s m args below meth c H locs cells slots Q (F0 m (pc + 6) ls (.int (gi (sx xs i k)) :: rest))) : W p l e R s m args below meth c H locs cells slots Q (F0 m pc ls rest) := by
  have hL := hS.2.2.2
  refine lv_aload_n hM.fx.1 hM.fx.2.1 d0 rfl h0 ?_
  refine lv_iload hM.fx.1 hM.fx.2.1 d1 h4 ?_
  refine lv_iconst (v := gi (k : Int)) hM.fx.1 hM.fx.2.1 d3 rfl ?_
  refine r_iadd hM.fx d4 ?_
  rw [gwi_id (gcR (by omega))]
  refine va_sld hM.fx.1 hM.fx.2.1 hS.1 hS.2.1 hS.2.2.1 hH.2.1 (gin (gcR (by omega)) (by omega)) d5 ?_
  rw [gclamp (gcR (by omega)), show ((i : Int) + (k : Int)).toNat = i + k by omega, ← gi_of (xs (i + k))]
  exact kk
theorem l_bool {xs : Nat → Int32} {i tgt tg2 : Nat} (hM : gMD w p l s m args c cc nL own) (d0 : decode cc pc = .ok (.ifCond .eq 7, 3)) (d3 : decode cc (pc + 3) = .ok (.iconst 1, 1)) (d4 : decode cc (pc + 4) = .ok (.goto 4, 3)) (d7 : decode cc (pc + 7) = .ok (.iconst 0, 1)) (hr : gRI (sx xs i 3)) (ht : tgt = pc + 7) (ht2 : tg2 = pc + 8)
    (kk : W p l e R s m args below meth c H locs cells slots Q (F0 m tg2 ls (.int (gi (sb xs i 3)) :: rest))) : W p l e R s m args below meth c H locs cells slots Q (F0 m pc ls (.int (gi (sx xs i 3)) :: rest)) := by
  subst ht ht2
  unfold sb at kk
  refine r_if_eq (tgt := pc + 7) hM.fx hr d0 (by omega) (fun h => ?_) (fun h => ?_)
  · rw [if_pos h] at kk
    exact lv_iconst (v := gi 0) hM.fx.1 hM.fx.2.1 d7 rfl kk
  · rw [if_neg h] at kk
    refine lv_iconst (v := gi 1) hM.fx.1 hM.fx.2.1 d3 rfl ?_
    exact lv_goto (tgt := pc + 8) hM.fx.1 hM.fx.2.1 d4 (by omega) kk
/-- behind the reference's answer: the two codes, then the two answers -/
theorem l_tail {q : Nat} {off : Int} {res : Nat ⊕ Int} {cE : Nat} {b i : Nat} (hM : gMD w p l s m args c cc 9 own) (hl9 : l.stackTraces = false) (hH : gH w gN gRm M s H locs) (v7 : M 855 7 = qThr cE res) (v8 : ∀ z, res = .inr z → M 864 0 = z) (hz : gRI (qWert res)) (hl : lv_has ls 9 [(5, .int (gi (qThr cE res))), (0, .ref b), (1, .ref (w.1 + 1)), (2, .ref (w.1 + 855)), (3, .ref (w.1 + 864)), (4, .int (gi (i : Int)))])
    (kk : ∀ H locs ls, gH w gN gRm M s H locs → lv_has ls 9 [(0, .ref b), (1, .ref (w.1 + 1)), (2, .ref (w.1 + 855)), (3, .ref (w.1 + 864)), (4, .int (gi (i : Int)))] → W p l e room_1 s m args below meth c H locs cells slots Q (F0 m 1972 ls []))
    (cv : gCV own 107 yX9_thrown cX9_thrown 1 (some .int) 0) (hc1 : cells ≤ 601024) (hc2 : slots ≤ 7293034)
    (d0 : decode cc q = .ok (.istore 6, 2)) (d2 : decode cc (q + 2) = .ok (.aload_n 2, 1)) (d3 : decode cc (q + 3) = .ok (.invokevirtual 107, 3)) (d6 : decode cc (q + 6) = .ok (.iload 5, 2)) (d8 : decode cc (q + 8) = .ok (.if_icmp .eq 5, 3)) (d13 : decode cc (q + 13) = .ok (.iload 5, 2)) (d15 : decode cc (q + 15) = .ok (.ifCond .ne 15, 3)) (d18 : decode cc (q + 18) = .ok (.aload_n 3, 1)) (d19 : decode cc (q + 19) = .ok (.iconst 0, 1)) (d20 : decode cc (q + 20) = .ok (.laload, 1)) (d21 : decode cc (q + 21) = .ok (.iload 6, 2)) (d23 : decode cc (q + 23) = .ok (.i2l, 1)) (d24 : decode cc (q + 24) = .ok (.lcmp, 1)) (d25 : decode cc (q + 25) = .ok (.ifCond .eq 5, 3)) (d30 : decode cc (q + 30) = .ok (.goto off, 3)) (ho : ((q + 30 : Nat) : Int) + off = ((1972 : Nat) : Int)) :
    W p l e room_1 s m args below meth c H locs cells slots Q (F0 m q ls [.int (gi (qWert res))]) := by
  refine lv_istore (lv' := [(6, .int (gi (qWert res))), (5, .int (gi (qThr cE res))), (0, .ref b), (1, .ref (w.1 + 1)), (2, .ref (w.1 + 855)), (3, .ref (w.1 + 864)), (4, .int (gi (i : Int)))]) hM.fx.1 hM.fx.2.1 d0 hl (by decide) rfl (fun ls hl => ?_)
  refine lv_aload_n hM.fx.1 hM.fx.2.1 d2 rfl (lv_at hl 4 rfl) ?_
  refine r_go1 (rest := []) (v := .int (gi (M 855 7))) hH rfl (r_runVD (As := []) (b := 855) (t := 9) hM hH cv (mX9_thrown gLC_main hl9 (g := gsh) (by decide +kernel) k_thrown) ⟨by decide, by decide, by decide +kernel⟩ (by decide) rfl rfl rfl hl.1 rfl (Nat.le_of_ble_eq_true rfl) ⟨Nat.le_of_ble_eq_true rfl, Nat.le_of_ble_eq_true rfl⟩ ⟨hc1, hc2⟩ d3) (fun h7 H locs hH => ?_)
  refine lv_iload hM.fx.1 hM.fx.2.1 d6 (lv_at hl 1 rfl) ?_
  refine r_icmp_eq (tgt := q + 13) hM.fx h7 (qThr_r _ _) d8 (by omega) (fun _ => ?_) (fun h => absurd v7 h)
  refine lv_iload hM.fx.1 hM.fx.2.1 d13 (lv_at hl 1 rfl) ?_
  have fin : W p l e room_1 s m args below meth c H locs cells slots Q (F0 m (q + 30) ls []) := lv_goto (tgt := 1972) hM.fx.1 hM.fx.2.1 d30 ho (kk H locs ls hH (lv_sub hl [2, 3, 4, 5, 6] rfl))
  refine r_if_ne (tgt := q + 30) hM.fx (qThr_r _ _) d15 (by omega) (fun _ => fin) (fun h0 => ?_)
  obtain ⟨z, rfl⟩ : ∃ z, res = .inr z := by
    cases res with
    | inl e => unfold qThr at h0; dsimp only at h0; split at h0 <;> cases h0
    | inr z => exact ⟨z, rfl⟩
  have h8 := v8 z rfl
  refine lv_aload_n hM.fx.1 hM.fx.2.1 d18 rfl (lv_at hl 5 rfl) ?_
  refine lv_iconst (v := gi (0)) hM.fx.1 hM.fx.2.1 d19 rfl ?_
  refine r_lald (t := 35) hM.fx hM.kf hH ⟨by decide, by decide, by decide +kernel⟩ ⟨by decide, by decide⟩ (gcR (k := 0) (by decide)) ⟨by decide, by decide⟩ d20 ?_
  refine lv_iload hM.fx.1 hM.fx.2.1 d21 (lv_at hl 0 rfl) ?_
  refine r_i2l hM.fx hz d23 ?_
  refine r_lcmp hM.fx (by show gRL (M 864 0); rw [h8]; exact gRI_L hz) (gRI_L hz) d24 ?_
  refine r_if_eq (tgt := q + 30) hM.fx (glcmp_r _ _) d25 (by omega) (fun _ => fin) (fun h => absurd ?_ h)
  show glcmp (M 864 0) z = 0
  rw [h8]
  unfold glcmp
  rw [if_neg (by omega), if_pos rfl]
theorem l_tail0 {q : Nat} {off : Int} {res : Nat ⊕ Unit} {b i : Nat} (hM : gMD w p l s m args c cc 9 own) (hl9 : l.stackTraces = false) (hH : gH w gN gRm M s H locs) (v7 : M 855 7 = (match res with | .inl _ => 1 | .inr _ => 0)) (hl : lv_has ls 9 [(5, .int (gi (if res.isLeft then 1 else 0))), (0, .ref b), (1, .ref (w.1 + 1)), (2, .ref (w.1 + 855)), (3, .ref (w.1 + 864)), (4, .int (gi (i : Int)))])
    (kk : ∀ H locs ls, gH w gN gRm M s H locs → lv_has ls 9 [(0, .ref b), (1, .ref (w.1 + 1)), (2, .ref (w.1 + 855)), (3, .ref (w.1 + 864)), (4, .int (gi (i : Int)))] → W p l e room_1 s m args below meth c H locs cells slots Q (F0 m 1972 ls []))
    (cv : gCV own 107 yX9_thrown cX9_thrown 1 (some .int) 0) (hc1 : cells ≤ 601024) (hc2 : slots ≤ 7293034)
    (d2 : decode cc q = .ok (.aload_n 2, 1)) (d3 : decode cc (q + 1) = .ok (.invokevirtual 107, 3)) (d6 : decode cc (q + 4) = .ok (.iload 5, 2)) (d8 : decode cc (q + 6) = .ok (.if_icmp .eq 5, 3)) (d30 : decode cc (q + 11) = .ok (.goto off, 3)) (ho : ((q + 11 : Nat) : Int) + off = ((1972 : Nat) : Int)) :
    W p l e room_1 s m args below meth c H locs cells slots Q (F0 m q ls []) := by
  refine lv_aload_n hM.fx.1 hM.fx.2.1 d2 rfl (lv_at hl 3 rfl) ?_
  refine r_go1 (rest := []) (v := .int (gi (M 855 7))) hH rfl (r_runVD (As := []) (b := 855) (t := 9) hM hH cv (mX9_thrown gLC_main hl9 (g := gsh) (by decide +kernel) k_thrown) ⟨by decide, by decide, by decide +kernel⟩ (by decide) rfl rfl rfl hl.1 rfl (Nat.le_of_ble_eq_true rfl) ⟨Nat.le_of_ble_eq_true rfl, Nat.le_of_ble_eq_true rfl⟩ ⟨hc1, hc2⟩ d3) (fun h7 H locs hH => ?_)
  refine lv_iload hM.fx.1 hM.fx.2.1 d6 (lv_at hl 0 rfl) ?_
  have e7 : M 855 7 = (if res.isLeft then 1 else 0) := by
    rw [v7]
    cases res <;> rfl
  refine r_icmp_eq (tgt := q + 11) hM.fx h7 (by rw [← e7]; exact h7) d8 (by omega) (fun _ => ?_) (fun h => absurd e7 h)
  exact lv_goto (tgt := 1972) hM.fx.1 hM.fx.2.1 d30 ho (kk H locs ls hH (lv_sub hl [1, 2, 3, 4, 5] rfl))
end LawRows

theorem gm_835 : Cond.methodLink RL 101 yL_append ∈ gG := gG_in 835 (by decide +kernel) (by decide +kernel)
theorem gm_836 : Cond.static yL_append ∈ gG := gG_in 836 (by decide +kernel) (by decide +kernel)
theorem gm_91 : Cond.initialized RL ∈ gG := gG_in 91 (by decide +kernel) (by decide +kernel)
theorem csM_101 : gCW RL 101 yL_append cL_append 8 [(0, 16, 19, 13)] 7 := ⟨gm_835, gm_836, gm_91, gl_837, by decide +kernel⟩
theorem gm_1303 : Cond.methodLink RL 106 yX9_append ∈ gG := gG_in 1303 (by decide +kernel) (by decide +kernel)
theorem gm_1304 : Cond.instanceMethod yX9_append ∈ gG := gG_in 1304 (by decide +kernel) (by decide +kernel)
theorem gm_1305 : Cond.selects yX9_append.cls yX9_append yX9_append ∈ gG := gG_in 1305 (by decide +kernel) (by decide +kernel)
theorem gm_100 : Cond.initialized RX9 ∈ gG := gG_in 100 (by decide +kernel) (by decide +kernel)
theorem gm_1306 : Cond.code yX9_append cX9_append 9 (some .int) ∈ gG := gG_in 1306 (by decide +kernel) (by decide +kernel)
theorem cvM_106 : gCV RL 106 yX9_append cX9_append 9 (some .int) 5 := ⟨gm_1303, gm_1304, gm_1305, gm_100, gm_1306, by decide +kernel⟩
theorem gm_1277 : Cond.methodLink RL 107 yX9_thrown ∈ gG := gG_in 1277 (by decide +kernel) (by decide +kernel)
theorem gm_1278 : Cond.instanceMethod yX9_thrown ∈ gG := gG_in 1278 (by decide +kernel) (by decide +kernel)
theorem gm_1279 : Cond.selects yX9_thrown.cls yX9_thrown yX9_thrown ∈ gG := gG_in 1279 (by decide +kernel) (by decide +kernel)
theorem gm_1280 : Cond.code yX9_thrown cX9_thrown 1 (some .int) ∈ gG := gG_in 1280 (by decide +kernel) (by decide +kernel)
theorem cvM_107 : gCV RL 107 yX9_thrown cX9_thrown 1 (some .int) 0 := ⟨gm_1277, gm_1278, gm_1279, gm_100, gm_1280, by decide +kernel⟩
set_option maxHeartbeats 4000000 in
set_option maxRecDepth 100000 in
theorem lc_0 {w : gW} {p : Program} {l : Launch} {e : Env} {s : State} {m : MethodId} {below : List Frame} {meth : Method} {c : Code} {b L : Nat} {xs : Nat → Int32} {Q : State → Prop} (hM : gMD w p l s m [Value.ref b].toArray c cL_law 9 RL) (hl9 : l.stackTraces = false) (hS : gSc w s b L xs) {i : Nat} (hi : i + 6 ≤ L) {M : gMem} {K : Int} (hR : REL M K) (hK : K + 12000 ≤ 70000000) {H : Heap} {locs : List Loc} {cells slots : Nat} {ls : Array Slot} (hH : gH w gN gRm M s H locs) (hc : cells + 10 ≤ 601024 ∧ slots + 100 ≤ 7293034) (hl : lv_has ls 9 [(0, .ref b), (1, .ref (w.1 + 1)), (2, .ref (w.1 + 855)), (3, .ref (w.1 + 864)), (4, .int (gi (i : Int)))])
    (kk : ∀ H locs ls M K', gH w gN gRm M s H locs → REL M K' → K' ≤ K + 12000 → lv_has ls 9 [(0, .ref b), (1, .ref (w.1 + 1)), (2, .ref (w.1 + 855)), (3, .ref (w.1 + 864)), (4, .int (gi (i : Int)))] → W p l e room_1 s m [Value.ref b].toArray below meth c H locs (cells + 10) (slots + 100) Q (F0 m 1972 ls [])) :
    W p l e room_1 s m [Value.ref b].toArray below meth c H locs cells slots Q (F0 m 196 ls []) := by
  obtain ⟨res, M1, e1, he, hz⟩ := z_append (y1 := sx xs i 1) (y2 := sx xs i 2) (y3 := sx xs i 3) (y4 := sx xs i 4) (y5 := sx xs i 5) hR
  obtain ⟨M2, e2, v7, v8, hR2⟩ := hz (gWm res M1) (gWm_out res M1)
  refine lv_aload_n hM.fx.1 hM.fx.2.1 dL_law_196 rfl (lv_at hl 1 rfl) ?_
  refine l_arg (k := 1) hM hS hi (by decide) (lv_at hl 0 rfl) (lv_at hl 4 rfl) dL_law_197 dL_law_198 dL_law_200 dL_law_201 dL_law_202 hH ?_
  refine l_arg (k := 2) hM hS hi (by decide) (lv_at hl 0 rfl) (lv_at hl 4 rfl) dL_law_203 dL_law_204 dL_law_206 dL_law_207 dL_law_208 hH ?_
  refine l_arg (k := 3) hM hS hi (by decide) (lv_at hl 0 rfl) (lv_at hl 4 rfl) dL_law_209 dL_law_210 dL_law_212 dL_law_213 dL_law_214 hH ?_
  refine l_arg (k := 4) hM hS hi (by decide) (lv_at hl 0 rfl) (lv_at hl 4 rfl) dL_law_215 dL_law_216 dL_law_218 dL_law_219 dL_law_220 hH ?_
  refine l_arg (k := 5) hM hS hi (by decide) (lv_at hl 0 rfl) (lv_at hl 4 rfl) dL_law_221 dL_law_222 dL_law_224 dL_law_225 dL_law_226 hH ?_
  refine lv_aload_n hM.fx.1 hM.fx.2.1 dL_law_227 rfl (lv_at hl 3 rfl) ?_
  refine r_go1 (rest := []) (v := .int (gi (qThr 1 res))) hH rfl (r_runX (As := [.ref (w.1 + 1), .int (gi (sx xs i 1)), .int (gi (sx xs i 2)), .int (gi (sx xs i 3)), .int (gi (sx xs i 4)), .int (gi (sx xs i 5)), .ref (w.1 + 864)]) hM hH csM_101 (wL_append hl9 (sx_r xs i 1) (sx_r xs i 2) (sx_r xs i 3) (sx_r xs i 4) (sx_r xs i 5) e1 he) rfl hl.1 rfl (Nat.le_of_ble_eq_true rfl) ⟨Nat.le_of_ble_eq_true rfl, Nat.le_of_ble_eq_true rfl⟩ ⟨by show cells + 1 ≤ 601024; omega, by show slots + 6 ≤ 7293034; omega⟩ dL_law_228) (fun hz0 H locs hH => ?_)
  refine lv_istore (lv' := [(5, .int (gi (qThr 1 res))), (0, .ref b), (1, .ref (w.1 + 1)), (2, .ref (w.1 + 855)), (3, .ref (w.1 + 864)), (4, .int (gi (i : Int)))]) hM.fx.1 hM.fx.2.1 dL_law_231 hl (by decide) rfl (fun ls hl => ?_)
  refine lv_aload_n hM.fx.1 hM.fx.2.1 dL_law_233 rfl (lv_at hl 3 rfl) ?_
  refine l_arg (k := 1) hM hS hi (by decide) (lv_at hl 1 rfl) (lv_at hl 5 rfl) dL_law_234 dL_law_235 dL_law_237 dL_law_238 dL_law_239 hH ?_
  refine l_arg (k := 2) hM hS hi (by decide) (lv_at hl 1 rfl) (lv_at hl 5 rfl) dL_law_240 dL_law_241 dL_law_243 dL_law_244 dL_law_245 hH ?_
  refine l_arg (k := 3) hM hS hi (by decide) (lv_at hl 1 rfl) (lv_at hl 5 rfl) dL_law_246 dL_law_247 dL_law_249 dL_law_250 dL_law_251 hH ?_
  refine l_arg (k := 4) hM hS hi (by decide) (lv_at hl 1 rfl) (lv_at hl 5 rfl) dL_law_252 dL_law_253 dL_law_255 dL_law_256 dL_law_257 hH ?_
  refine l_arg (k := 5) hM hS hi (by decide) (lv_at hl 1 rfl) (lv_at hl 5 rfl) dL_law_258 dL_law_259 dL_law_261 dL_law_262 dL_law_263 hH ?_
  refine r_go1 (rest := []) (v := .int (gi (qWert res))) hH rfl (r_runVD (As := [.int (gi (sx xs i 1)), .int (gi (sx xs i 2)), .int (gi (sx xs i 3)), .int (gi (sx xs i 4)), .int (gi (sx xs i 5))]) (b := 855) (t := 9) hM hH cvM_106 (mX9_append gLC_main hl9 (g := gsh) (by decide +kernel) (sx_r xs i 1) (sx_r xs i 2) (sx_r xs i 3) (sx_r xs i 4) (sx_r xs i 5) e2) ⟨by decide, by decide, by decide +kernel⟩ (by decide) rfl rfl rfl hl.1 rfl (Nat.le_of_ble_eq_true rfl) ⟨Nat.le_of_ble_eq_true rfl, Nat.le_of_ble_eq_true rfl⟩ ⟨by show cells + 1 + 0 ≤ 601024; omega, by show slots + 6 + 0 ≤ 7293034; omega⟩ dL_law_264) (fun hz1 H locs hH => ?_)
  refine l_tail (M := M2) (q := 267) hM hl9 hH (res := res) v7 (fun z h => by rw [v8]; subst h; exact gup_hit rfl rfl) hz1 hl (kk := ?_) cvM_107 (by show cells + 1 + 0 ≤ 601024; omega) (by show slots + 6 + 0 ≤ 7293034; omega) dL_law_267 dL_law_269 dL_law_270 dL_law_273 dL_law_275 dL_law_280 dL_law_282 dL_law_285 dL_law_286 dL_law_287 dL_law_288 dL_law_290 dL_law_291 dL_law_292 dL_law_297 (by decide)
  intro H locs ls hH hl
  exact W.widen (by show cells + 1 + 0 ≤ cells + 10; omega) (by show slots + 6 + 0 ≤ slots + 100; omega) (kk H locs ls M2 _ hH hR2 (by omega) hl)
theorem gm_431 : Cond.methodLink RL 110 yX8_load ∈ gG := gG_in 431 (by decide +kernel) (by decide +kernel)
theorem gm_432 : Cond.instanceMethod yX8_load ∈ gG := gG_in 432 (by decide +kernel) (by decide +kernel)
theorem gm_433 : Cond.selects yX8_load.cls yX8_load yX8_load ∈ gG := gG_in 433 (by decide +kernel) (by decide +kernel)
theorem gm_92 : Cond.initialized RX8 ∈ gG := gG_in 92 (by decide +kernel) (by decide +kernel)
theorem gm_434 : Cond.code yX8_load cX8_load 2 (some .int) ∈ gG := gG_in 434 (by decide +kernel) (by decide +kernel)
theorem cvM_110 : gCV RL 110 yX8_load cX8_load 2 (some .int) 0 := ⟨gm_431, gm_432, gm_433, gm_92, gm_434, by decide +kernel⟩
theorem gm_1310 : Cond.methodLink RL 113 yX9_load ∈ gG := gG_in 1310 (by decide +kernel) (by decide +kernel)
theorem gm_1311 : Cond.instanceMethod yX9_load ∈ gG := gG_in 1311 (by decide +kernel) (by decide +kernel)
theorem gm_1312 : Cond.selects yX9_load.cls yX9_load yX9_load ∈ gG := gG_in 1312 (by decide +kernel) (by decide +kernel)
theorem gm_1313 : Cond.code yX9_load cX9_load 1 (some .int) ∈ gG := gG_in 1313 (by decide +kernel) (by decide +kernel)
theorem cvM_113 : gCV RL 113 yX9_load cX9_load 1 (some .int) 0 := ⟨gm_1310, gm_1311, gm_1312, gm_100, gm_1313, by decide +kernel⟩
set_option maxHeartbeats 4000000 in
set_option maxRecDepth 100000 in
theorem lc_1 {w : gW} {p : Program} {l : Launch} {e : Env} {s : State} {m : MethodId} {below : List Frame} {meth : Method} {c : Code} {b L : Nat} {xs : Nat → Int32} {Q : State → Prop} (hM : gMD w p l s m [Value.ref b].toArray c cL_law 9 RL) (hl9 : l.stackTraces = false) (hS : gSc w s b L xs) {i : Nat} (hi : i + 6 ≤ L) {M : gMem} {K : Int} (hR : REL M K) (hK : K + 12000 ≤ 70000000) {H : Heap} {locs : List Loc} {cells slots : Nat} {ls : Array Slot} (hH : gH w gN gRm M s H locs) (hc : cells + 10 ≤ 601024 ∧ slots + 100 ≤ 7293034) (hl : lv_has ls 9 [(0, .ref b), (1, .ref (w.1 + 1)), (2, .ref (w.1 + 855)), (3, .ref (w.1 + 864)), (4, .int (gi (i : Int)))])
    (kk : ∀ H locs ls M K', gH w gN gRm M s H locs → REL M K' → K' ≤ K + 12000 → lv_has ls 9 [(0, .ref b), (1, .ref (w.1 + 1)), (2, .ref (w.1 + 855)), (3, .ref (w.1 + 864)), (4, .int (gi (i : Int)))] → W p l e room_1 s m [Value.ref b].toArray below meth c H locs (cells + 10) (slots + 100) Q (F0 m 1972 ls [])) :
    W p l e room_1 s m [Value.ref b].toArray below meth c H locs cells slots Q (F0 m 300 ls []) := by
  obtain ⟨v, M1, M2, e1, e2, hR2⟩ := k_load hR
  refine lv_aload_n hM.fx.1 hM.fx.2.1 dL_law_300 rfl (lv_at hl 1 rfl) ?_
  refine r_go1 (rest := []) (v := .int (gi v)) hH rfl (r_runVD (As := []) (b := 1) (t := 8) hM hH cvM_110 (mX8_load gLC_main hl9 (g := gsh) (by decide +kernel) e1) ⟨by decide, by decide, by decide +kernel⟩ (by decide) rfl rfl rfl hl.1 rfl (Nat.le_of_ble_eq_true rfl) ⟨Nat.le_of_ble_eq_true rfl, Nat.le_of_ble_eq_true rfl⟩ ⟨by show cells + 0 ≤ 601024; omega, by show slots + 0 ≤ 7293034; omega⟩ dL_law_301) (fun hv0 H locs hH => ?_)
  refine lv_aload_n hM.fx.1 hM.fx.2.1 dL_law_304 rfl (lv_at hl 2 rfl) ?_
  refine r_go1 (rest := [.int (gi v)]) (v := .int (gi v)) hH rfl (r_runVD (As := []) (b := 855) (t := 9) hM hH cvM_113 (mX9_load gLC_main hl9 (g := gsh) (by decide +kernel) e2) ⟨by decide, by decide, by decide +kernel⟩ (by decide) rfl rfl rfl hl.1 rfl (Nat.le_of_ble_eq_true rfl) ⟨Nat.le_of_ble_eq_true rfl, Nat.le_of_ble_eq_true rfl⟩ ⟨by show cells + 0 + 0 ≤ 601024; omega, by show slots + 0 + 0 ≤ 7293034; omega⟩ dL_law_305) (fun hv1 H locs hH => ?_)
  refine r_icmp_eq (tgt := 1972) hM.fx hv0 hv1 dL_law_308 (by decide) (fun _ => ?_) (fun h => absurd rfl h)
  exact W.widen (by show cells + 0 + 0 ≤ cells + 10; omega) (by show slots + 0 + 0 ≤ slots + 100; omega) (kk H locs ls M2 _ hH hR2 (by omega) hl)
theorem gm_668 : Cond.methodLink RL 114 yX8_errorPosition ∈ gG := gG_in 668 (by decide +kernel) (by decide +kernel)
theorem gm_669 : Cond.instanceMethod yX8_errorPosition ∈ gG := gG_in 669 (by decide +kernel) (by decide +kernel)
theorem gm_670 : Cond.selects yX8_errorPosition.cls yX8_errorPosition yX8_errorPosition ∈ gG := gG_in 670 (by decide +kernel) (by decide +kernel)
theorem gm_671 : Cond.code yX8_errorPosition cX8_errorPosition 1 (some .int) ∈ gG := gG_in 671 (by decide +kernel) (by decide +kernel)
theorem cvM_114 : gCV RL 114 yX8_errorPosition cX8_errorPosition 1 (some .int) 0 := ⟨gm_668, gm_669, gm_670, gm_92, gm_671, by decide +kernel⟩
theorem gm_1442 : Cond.methodLink RL 117 yX9_errorPosition ∈ gG := gG_in 1442 (by decide +kernel) (by decide +kernel)
theorem gm_1443 : Cond.instanceMethod yX9_errorPosition ∈ gG := gG_in 1443 (by decide +kernel) (by decide +kernel)
theorem gm_1444 : Cond.selects yX9_errorPosition.cls yX9_errorPosition yX9_errorPosition ∈ gG := gG_in 1444 (by decide +kernel) (by decide +kernel)
theorem gm_1445 : Cond.code yX9_errorPosition cX9_errorPosition 1 (some .int) ∈ gG := gG_in 1445 (by decide +kernel) (by decide +kernel)
theorem cvM_117 : gCV RL 117 yX9_errorPosition cX9_errorPosition 1 (some .int) 0 := ⟨gm_1442, gm_1443, gm_1444, gm_100, gm_1445, by decide +kernel⟩
set_option maxHeartbeats 4000000 in
set_option maxRecDepth 100000 in
theorem lc_2 {w : gW} {p : Program} {l : Launch} {e : Env} {s : State} {m : MethodId} {below : List Frame} {meth : Method} {c : Code} {b L : Nat} {xs : Nat → Int32} {Q : State → Prop} (hM : gMD w p l s m [Value.ref b].toArray c cL_law 9 RL) (hl9 : l.stackTraces = false) (hS : gSc w s b L xs) {i : Nat} (hi : i + 6 ≤ L) {M : gMem} {K : Int} (hR : REL M K) (hK : K + 12000 ≤ 70000000) {H : Heap} {locs : List Loc} {cells slots : Nat} {ls : Array Slot} (hH : gH w gN gRm M s H locs) (hc : cells + 10 ≤ 601024 ∧ slots + 100 ≤ 7293034) (hl : lv_has ls 9 [(0, .ref b), (1, .ref (w.1 + 1)), (2, .ref (w.1 + 855)), (3, .ref (w.1 + 864)), (4, .int (gi (i : Int)))])
    (kk : ∀ H locs ls M K', gH w gN gRm M s H locs → REL M K' → K' ≤ K + 12000 → lv_has ls 9 [(0, .ref b), (1, .ref (w.1 + 1)), (2, .ref (w.1 + 855)), (3, .ref (w.1 + 864)), (4, .int (gi (i : Int)))] → W p l e room_1 s m [Value.ref b].toArray below meth c H locs (cells + 10) (slots + 100) Q (F0 m 1972 ls [])) :
    W p l e room_1 s m [Value.ref b].toArray below meth c H locs cells slots Q (F0 m 313 ls []) := by
  obtain ⟨v, M2, e1, e2, hR2⟩ := k_errorPosition hR
  refine lv_aload_n hM.fx.1 hM.fx.2.1 dL_law_313 rfl (lv_at hl 1 rfl) ?_
  refine r_go1 (rest := []) (v := .int (gi v)) hH rfl (r_runVD (As := []) (b := 1) (t := 8) hM hH cvM_114 (mX8_errorPosition gLC_main hl9 (g := gsh) (by decide +kernel) e1) ⟨by decide, by decide, by decide +kernel⟩ (by decide) rfl rfl rfl hl.1 rfl (Nat.le_of_ble_eq_true rfl) ⟨Nat.le_of_ble_eq_true rfl, Nat.le_of_ble_eq_true rfl⟩ ⟨by show cells + 0 ≤ 601024; omega, by show slots + 0 ≤ 7293034; omega⟩ dL_law_314) (fun hv0 H locs hH => ?_)
  refine lv_aload_n hM.fx.1 hM.fx.2.1 dL_law_317 rfl (lv_at hl 2 rfl) ?_
  refine r_go1 (rest := [.int (gi v)]) (v := .int (gi v)) hH rfl (r_runVD (As := []) (b := 855) (t := 9) hM hH cvM_117 (mX9_errorPosition gLC_main hl9 (g := gsh) (by decide +kernel) e2) ⟨by decide, by decide, by decide +kernel⟩ (by decide) rfl rfl rfl hl.1 rfl (Nat.le_of_ble_eq_true rfl) ⟨Nat.le_of_ble_eq_true rfl, Nat.le_of_ble_eq_true rfl⟩ ⟨by show cells + 0 + 0 ≤ 601024; omega, by show slots + 0 + 0 ≤ 7293034; omega⟩ dL_law_318) (fun hv1 H locs hH => ?_)
  refine r_icmp_eq (tgt := 1972) hM.fx hv0 hv1 dL_law_321 (by decide) (fun _ => ?_) (fun h => absurd rfl h)
  exact W.widen (by show cells + 0 + 0 ≤ cells + 10; omega) (by show slots + 0 + 0 ≤ slots + 100; omega) (kk H locs ls M2 _ hH hR2 (by omega) hl)
theorem gm_917 : Cond.methodLink RL 118 yL_count ∈ gG := gG_in 917 (by decide +kernel) (by decide +kernel)
theorem gm_918 : Cond.static yL_count ∈ gG := gG_in 918 (by decide +kernel) (by decide +kernel)
theorem csM_118 : gCW RL 118 yL_count cL_count 4 [(0, 9, 12, 19)] 3 := ⟨gm_917, gm_918, gm_91, gl_919, by decide +kernel⟩
theorem gm_1446 : Cond.methodLink RL 121 yX9_count ∈ gG := gG_in 1446 (by decide +kernel) (by decide +kernel)
theorem gm_1447 : Cond.instanceMethod yX9_count ∈ gG := gG_in 1447 (by decide +kernel) (by decide +kernel)
theorem gm_1448 : Cond.selects yX9_count.cls yX9_count yX9_count ∈ gG := gG_in 1448 (by decide +kernel) (by decide +kernel)
theorem gm_1449 : Cond.code yX9_count cX9_count 2 (some .int) ∈ gG := gG_in 1449 (by decide +kernel) (by decide +kernel)
theorem cvM_121 : gCV RL 121 yX9_count cX9_count 2 (some .int) 1 := ⟨gm_1446, gm_1447, gm_1448, gm_100, gm_1449, by decide +kernel⟩
set_option maxHeartbeats 4000000 in
set_option maxRecDepth 100000 in
theorem lc_3 {w : gW} {p : Program} {l : Launch} {e : Env} {s : State} {m : MethodId} {below : List Frame} {meth : Method} {c : Code} {b L : Nat} {xs : Nat → Int32} {Q : State → Prop} (hM : gMD w p l s m [Value.ref b].toArray c cL_law 9 RL) (hl9 : l.stackTraces = false) (hS : gSc w s b L xs) {i : Nat} (hi : i + 6 ≤ L) {M : gMem} {K : Int} (hR : REL M K) (hK : K + 12000 ≤ 70000000) {H : Heap} {locs : List Loc} {cells slots : Nat} {ls : Array Slot} (hH : gH w gN gRm M s H locs) (hc : cells + 10 ≤ 601024 ∧ slots + 100 ≤ 7293034) (hl : lv_has ls 9 [(0, .ref b), (1, .ref (w.1 + 1)), (2, .ref (w.1 + 855)), (3, .ref (w.1 + 864)), (4, .int (gi (i : Int)))])
    (kk : ∀ H locs ls M K', gH w gN gRm M s H locs → REL M K' → K' ≤ K + 12000 → lv_has ls 9 [(0, .ref b), (1, .ref (w.1 + 1)), (2, .ref (w.1 + 855)), (3, .ref (w.1 + 864)), (4, .int (gi (i : Int)))] → W p l e room_1 s m [Value.ref b].toArray below meth c H locs (cells + 10) (slots + 100) Q (F0 m 1972 ls [])) :
    W p l e room_1 s m [Value.ref b].toArray below meth c H locs cells slots Q (F0 m 326 ls []) := by
  obtain ⟨res, e1, he, hz⟩ := z_count (y1 := sx xs i 1) hR
  obtain ⟨M2, e2, v7, v8, hR2⟩ := hz (gWm res M) (gWm_out res M)
  refine lv_aload_n hM.fx.1 hM.fx.2.1 dL_law_326 rfl (lv_at hl 1 rfl) ?_
  refine l_arg (k := 1) hM hS hi (by decide) (lv_at hl 0 rfl) (lv_at hl 4 rfl) dL_law_327 dL_law_328 dL_law_330 dL_law_331 dL_law_332 hH ?_
  refine lv_aload_n hM.fx.1 hM.fx.2.1 dL_law_333 rfl (lv_at hl 3 rfl) ?_
  refine r_go1 (rest := []) (v := .int (gi (qThr 2 res))) hH rfl (r_runX (As := [.ref (w.1 + 1), .int (gi (sx xs i 1)), .ref (w.1 + 864)]) hM hH csM_118 (wL_count hl9 (sx_r xs i 1) e1 he) rfl hl.1 rfl (Nat.le_of_ble_eq_true rfl) ⟨Nat.le_of_ble_eq_true rfl, Nat.le_of_ble_eq_true rfl⟩ ⟨by show cells + 1 ≤ 601024; omega, by show slots + 6 ≤ 7293034; omega⟩ dL_law_334) (fun hz0 H locs hH => ?_)
  refine lv_istore (lv' := [(5, .int (gi (qThr 2 res))), (0, .ref b), (1, .ref (w.1 + 1)), (2, .ref (w.1 + 855)), (3, .ref (w.1 + 864)), (4, .int (gi (i : Int)))]) hM.fx.1 hM.fx.2.1 dL_law_337 hl (by decide) rfl (fun ls hl => ?_)
  refine lv_aload_n hM.fx.1 hM.fx.2.1 dL_law_339 rfl (lv_at hl 3 rfl) ?_
  refine l_arg (k := 1) hM hS hi (by decide) (lv_at hl 1 rfl) (lv_at hl 5 rfl) dL_law_340 dL_law_341 dL_law_343 dL_law_344 dL_law_345 hH ?_
  refine r_go1 (rest := []) (v := .int (gi (qWert res))) hH rfl (r_runVD (As := [.int (gi (sx xs i 1))]) (b := 855) (t := 9) hM hH cvM_121 (mX9_count gLC_main hl9 (g := gsh) (by decide +kernel) (sx_r xs i 1) e2) ⟨by decide, by decide, by decide +kernel⟩ (by decide) rfl rfl rfl hl.1 rfl (Nat.le_of_ble_eq_true rfl) ⟨Nat.le_of_ble_eq_true rfl, Nat.le_of_ble_eq_true rfl⟩ ⟨by show cells + 1 + 0 ≤ 601024; omega, by show slots + 6 + 0 ≤ 7293034; omega⟩ dL_law_346) (fun hz1 H locs hH => ?_)
  refine l_tail (M := M2) (q := 349) hM hl9 hH (res := res) v7 (fun z h => by rw [v8]; subst h; exact gup_hit rfl rfl) hz1 hl (kk := ?_) cvM_107 (by show cells + 1 + 0 ≤ 601024; omega) (by show slots + 6 + 0 ≤ 7293034; omega) dL_law_349 dL_law_351 dL_law_352 dL_law_355 dL_law_357 dL_law_362 dL_law_364 dL_law_367 dL_law_368 dL_law_369 dL_law_370 dL_law_372 dL_law_373 dL_law_374 dL_law_379 (by decide)
  intro H locs ls hH hl
  exact W.widen (by show cells + 1 + 0 ≤ cells + 10; omega) (by show slots + 6 + 0 ≤ slots + 100; omega) (kk H locs ls M2 _ hH hR2 (by omega) hl)
theorem gm_951 : Cond.methodLink RL 122 yL_process ∈ gG := gG_in 951 (by decide +kernel) (by decide +kernel)
theorem gm_952 : Cond.static yL_process ∈ gG := gG_in 952 (by decide +kernel) (by decide +kernel)
theorem csM_122 : gCW RL 122 yL_process cL_process 5 [(0, 10, 13, 25), (0, 10, 17, 19)] 4 := ⟨gm_951, gm_952, gm_91, gl_953, by decide +kernel⟩
theorem gm_1498 : Cond.methodLink RL 125 yX9_process ∈ gG := gG_in 1498 (by decide +kernel) (by decide +kernel)
theorem gm_1499 : Cond.instanceMethod yX9_process ∈ gG := gG_in 1499 (by decide +kernel) (by decide +kernel)
theorem gm_1500 : Cond.selects yX9_process.cls yX9_process yX9_process ∈ gG := gG_in 1500 (by decide +kernel) (by decide +kernel)
theorem gm_1501 : Cond.code yX9_process cX9_process 3 (some .int) ∈ gG := gG_in 1501 (by decide +kernel) (by decide +kernel)
theorem cvM_125 : gCV RL 125 yX9_process cX9_process 3 (some .int) 2 := ⟨gm_1498, gm_1499, gm_1500, gm_100, gm_1501, by decide +kernel⟩
set_option maxHeartbeats 4000000 in
set_option maxRecDepth 100000 in
theorem lc_4 {w : gW} {p : Program} {l : Launch} {e : Env} {s : State} {m : MethodId} {below : List Frame} {meth : Method} {c : Code} {b L : Nat} {xs : Nat → Int32} {Q : State → Prop} (hM : gMD w p l s m [Value.ref b].toArray c cL_law 9 RL) (hl9 : l.stackTraces = false) (hS : gSc w s b L xs) {i : Nat} (hi : i + 6 ≤ L) {M : gMem} {K : Int} (hR : REL M K) (hK : K + 12000 ≤ 70000000) {H : Heap} {locs : List Loc} {cells slots : Nat} {ls : Array Slot} (hH : gH w gN gRm M s H locs) (hc : cells + 10 ≤ 601024 ∧ slots + 100 ≤ 7293034) (hl : lv_has ls 9 [(0, .ref b), (1, .ref (w.1 + 1)), (2, .ref (w.1 + 855)), (3, .ref (w.1 + 864)), (4, .int (gi (i : Int)))])
    (kk : ∀ H locs ls M K', gH w gN gRm M s H locs → REL M K' → K' ≤ K + 12000 → lv_has ls 9 [(0, .ref b), (1, .ref (w.1 + 1)), (2, .ref (w.1 + 855)), (3, .ref (w.1 + 864)), (4, .int (gi (i : Int)))] → W p l e room_1 s m [Value.ref b].toArray below meth c H locs (cells + 10) (slots + 100) Q (F0 m 1972 ls [])) :
    W p l e room_1 s m [Value.ref b].toArray below meth c H locs cells slots Q (F0 m 382 ls []) := by
  obtain ⟨res, e1, he, hz⟩ := z_process (y1 := sx xs i 1) (y2 := sx xs i 2) hR
  obtain ⟨M2, e2, v7, v8, hR2⟩ := hz (gWm res M) (gWm_out res M)
  refine lv_aload_n hM.fx.1 hM.fx.2.1 dL_law_382 rfl (lv_at hl 1 rfl) ?_
  refine l_arg (k := 1) hM hS hi (by decide) (lv_at hl 0 rfl) (lv_at hl 4 rfl) dL_law_383 dL_law_384 dL_law_386 dL_law_387 dL_law_388 hH ?_
  refine l_arg (k := 2) hM hS hi (by decide) (lv_at hl 0 rfl) (lv_at hl 4 rfl) dL_law_389 dL_law_390 dL_law_392 dL_law_393 dL_law_394 hH ?_
  refine lv_aload_n hM.fx.1 hM.fx.2.1 dL_law_395 rfl (lv_at hl 3 rfl) ?_
  refine r_go1 (rest := []) (v := .int (gi (qThr 3 res))) hH rfl (r_runX (As := [.ref (w.1 + 1), .int (gi (sx xs i 1)), .int (gi (sx xs i 2)), .ref (w.1 + 864)]) hM hH csM_122 (wL_process hl9 (sx_r xs i 1) (sx_r xs i 2) e1 he) rfl hl.1 rfl (Nat.le_of_ble_eq_true rfl) ⟨Nat.le_of_ble_eq_true rfl, Nat.le_of_ble_eq_true rfl⟩ ⟨by show cells + 2 ≤ 601024; omega, by show slots + 12 ≤ 7293034; omega⟩ dL_law_396) (fun hz0 H locs hH => ?_)
  refine lv_istore (lv' := [(5, .int (gi (qThr 3 res))), (0, .ref b), (1, .ref (w.1 + 1)), (2, .ref (w.1 + 855)), (3, .ref (w.1 + 864)), (4, .int (gi (i : Int)))]) hM.fx.1 hM.fx.2.1 dL_law_399 hl (by decide) rfl (fun ls hl => ?_)
  refine lv_aload_n hM.fx.1 hM.fx.2.1 dL_law_401 rfl (lv_at hl 3 rfl) ?_
  refine l_arg (k := 1) hM hS hi (by decide) (lv_at hl 1 rfl) (lv_at hl 5 rfl) dL_law_402 dL_law_403 dL_law_405 dL_law_406 dL_law_407 hH ?_
  refine l_arg (k := 2) hM hS hi (by decide) (lv_at hl 1 rfl) (lv_at hl 5 rfl) dL_law_408 dL_law_409 dL_law_411 dL_law_412 dL_law_413 hH ?_
  refine r_go1 (rest := []) (v := .int (gi (qWert res))) hH rfl (r_runVD (As := [.int (gi (sx xs i 1)), .int (gi (sx xs i 2))]) (b := 855) (t := 9) hM hH cvM_125 (mX9_process gLC_main hl9 (g := gsh) (by decide +kernel) (sx_r xs i 1) (sx_r xs i 2) e2) ⟨by decide, by decide, by decide +kernel⟩ (by decide) rfl rfl rfl hl.1 rfl (Nat.le_of_ble_eq_true rfl) ⟨Nat.le_of_ble_eq_true rfl, Nat.le_of_ble_eq_true rfl⟩ ⟨by show cells + 2 + 0 ≤ 601024; omega, by show slots + 12 + 0 ≤ 7293034; omega⟩ dL_law_414) (fun hz1 H locs hH => ?_)
  refine l_tail (M := M2) (q := 417) hM hl9 hH (res := res) v7 (fun z h => by rw [v8]; subst h; exact gup_hit rfl rfl) hz1 hl (kk := ?_) cvM_107 (by show cells + 2 + 0 ≤ 601024; omega) (by show slots + 12 + 0 ≤ 7293034; omega) dL_law_417 dL_law_419 dL_law_420 dL_law_423 dL_law_425 dL_law_430 dL_law_432 dL_law_435 dL_law_436 dL_law_437 dL_law_438 dL_law_440 dL_law_441 dL_law_442 dL_law_447 (by decide)
  intro H locs ls hH hl
  exact W.widen (by show cells + 2 + 0 ≤ cells + 10; omega) (by show slots + 12 + 0 ≤ slots + 100; omega) (kk H locs ls M2 _ hH hR2 (by omega) hl)
theorem gm_980 : Cond.methodLink RL 126 yL_stack ∈ gG := gG_in 980 (by decide +kernel) (by decide +kernel)
theorem gm_981 : Cond.static yL_stack ∈ gG := gG_in 981 (by decide +kernel) (by decide +kernel)
theorem csM_126 : gCW RL 126 yL_stack cL_stack 5 [(0, 10, 13, 25), (0, 10, 17, 19)] 4 := ⟨gm_980, gm_981, gm_91, gl_982, by decide +kernel⟩
theorem gm_1506 : Cond.methodLink RL 128 yX9_stack ∈ gG := gG_in 1506 (by decide +kernel) (by decide +kernel)
theorem gm_1507 : Cond.instanceMethod yX9_stack ∈ gG := gG_in 1507 (by decide +kernel) (by decide +kernel)
theorem gm_1508 : Cond.selects yX9_stack.cls yX9_stack yX9_stack ∈ gG := gG_in 1508 (by decide +kernel) (by decide +kernel)
theorem gm_1509 : Cond.code yX9_stack cX9_stack 3 (some .int) ∈ gG := gG_in 1509 (by decide +kernel) (by decide +kernel)
theorem cvM_128 : gCV RL 128 yX9_stack cX9_stack 3 (some .int) 2 := ⟨gm_1506, gm_1507, gm_1508, gm_100, gm_1509, by decide +kernel⟩
set_option maxHeartbeats 4000000 in
set_option maxRecDepth 100000 in
theorem lc_5 {w : gW} {p : Program} {l : Launch} {e : Env} {s : State} {m : MethodId} {below : List Frame} {meth : Method} {c : Code} {b L : Nat} {xs : Nat → Int32} {Q : State → Prop} (hM : gMD w p l s m [Value.ref b].toArray c cL_law 9 RL) (hl9 : l.stackTraces = false) (hS : gSc w s b L xs) {i : Nat} (hi : i + 6 ≤ L) {M : gMem} {K : Int} (hR : REL M K) (hK : K + 12000 ≤ 70000000) {H : Heap} {locs : List Loc} {cells slots : Nat} {ls : Array Slot} (hH : gH w gN gRm M s H locs) (hc : cells + 10 ≤ 601024 ∧ slots + 100 ≤ 7293034) (hl : lv_has ls 9 [(0, .ref b), (1, .ref (w.1 + 1)), (2, .ref (w.1 + 855)), (3, .ref (w.1 + 864)), (4, .int (gi (i : Int)))])
    (kk : ∀ H locs ls M K', gH w gN gRm M s H locs → REL M K' → K' ≤ K + 12000 → lv_has ls 9 [(0, .ref b), (1, .ref (w.1 + 1)), (2, .ref (w.1 + 855)), (3, .ref (w.1 + 864)), (4, .int (gi (i : Int)))] → W p l e room_1 s m [Value.ref b].toArray below meth c H locs (cells + 10) (slots + 100) Q (F0 m 1972 ls [])) :
    W p l e room_1 s m [Value.ref b].toArray below meth c H locs cells slots Q (F0 m 450 ls []) := by
  obtain ⟨res, e1, he, hz⟩ := z_stack (y1 := sx xs i 1) (y2 := sx xs i 2) hR
  obtain ⟨M2, e2, v7, v8, hR2⟩ := hz (gWm res M) (gWm_out res M)
  refine lv_aload_n hM.fx.1 hM.fx.2.1 dL_law_450 rfl (lv_at hl 1 rfl) ?_
  refine l_arg (k := 1) hM hS hi (by decide) (lv_at hl 0 rfl) (lv_at hl 4 rfl) dL_law_451 dL_law_452 dL_law_454 dL_law_455 dL_law_456 hH ?_
  refine l_arg (k := 2) hM hS hi (by decide) (lv_at hl 0 rfl) (lv_at hl 4 rfl) dL_law_457 dL_law_458 dL_law_460 dL_law_461 dL_law_462 hH ?_
  refine lv_aload_n hM.fx.1 hM.fx.2.1 dL_law_463 rfl (lv_at hl 3 rfl) ?_
  refine r_go1 (rest := []) (v := .int (gi (qThr 3 res))) hH rfl (r_runX (As := [.ref (w.1 + 1), .int (gi (sx xs i 1)), .int (gi (sx xs i 2)), .ref (w.1 + 864)]) hM hH csM_126 (wL_stack hl9 (sx_r xs i 1) (sx_r xs i 2) e1 he) rfl hl.1 rfl (Nat.le_of_ble_eq_true rfl) ⟨Nat.le_of_ble_eq_true rfl, Nat.le_of_ble_eq_true rfl⟩ ⟨by show cells + 2 ≤ 601024; omega, by show slots + 12 ≤ 7293034; omega⟩ dL_law_464) (fun hz0 H locs hH => ?_)
  refine lv_istore (lv' := [(5, .int (gi (qThr 3 res))), (0, .ref b), (1, .ref (w.1 + 1)), (2, .ref (w.1 + 855)), (3, .ref (w.1 + 864)), (4, .int (gi (i : Int)))]) hM.fx.1 hM.fx.2.1 dL_law_467 hl (by decide) rfl (fun ls hl => ?_)
  refine lv_aload_n hM.fx.1 hM.fx.2.1 dL_law_469 rfl (lv_at hl 3 rfl) ?_
  refine l_arg (k := 1) hM hS hi (by decide) (lv_at hl 1 rfl) (lv_at hl 5 rfl) dL_law_470 dL_law_471 dL_law_473 dL_law_474 dL_law_475 hH ?_
  refine l_arg (k := 2) hM hS hi (by decide) (lv_at hl 1 rfl) (lv_at hl 5 rfl) dL_law_476 dL_law_477 dL_law_479 dL_law_480 dL_law_481 hH ?_
  refine r_go1 (rest := []) (v := .int (gi (qWert res))) hH rfl (r_runVD (As := [.int (gi (sx xs i 1)), .int (gi (sx xs i 2))]) (b := 855) (t := 9) hM hH cvM_128 (mX9_stack gLC_main hl9 (g := gsh) (by decide +kernel) (sx_r xs i 1) (sx_r xs i 2) e2) ⟨by decide, by decide, by decide +kernel⟩ (by decide) rfl rfl rfl hl.1 rfl (Nat.le_of_ble_eq_true rfl) ⟨Nat.le_of_ble_eq_true rfl, Nat.le_of_ble_eq_true rfl⟩ ⟨by show cells + 2 + 0 ≤ 601024; omega, by show slots + 12 + 0 ≤ 7293034; omega⟩ dL_law_482) (fun hz1 H locs hH => ?_)
  refine l_tail (M := M2) (q := 485) hM hl9 hH (res := res) v7 (fun z h => by rw [v8]; subst h; exact gup_hit rfl rfl) hz1 hl (kk := ?_) cvM_107 (by show cells + 2 + 0 ≤ 601024; omega) (by show slots + 12 + 0 ≤ 7293034; omega) dL_law_485 dL_law_487 dL_law_488 dL_law_491 dL_law_493 dL_law_498 dL_law_500 dL_law_503 dL_law_504 dL_law_505 dL_law_506 dL_law_508 dL_law_509 dL_law_510 dL_law_515 (by decide)
  intro H locs ls hH hl
  exact W.widen (by show cells + 2 + 0 ≤ cells + 10; omega) (by show slots + 12 + 0 ≤ slots + 100; omega) (kk H locs ls M2 _ hH hR2 (by omega) hl)
theorem gm_993 : Cond.methodLink RL 129 yL_number ∈ gG := gG_in 993 (by decide +kernel) (by decide +kernel)
theorem gm_994 : Cond.static yL_number ∈ gG := gG_in 994 (by decide +kernel) (by decide +kernel)
theorem csM_129 : gCW RL 129 yL_number cL_number 5 [(0, 10, 13, 25)] 4 := ⟨gm_993, gm_994, gm_91, gl_995, by decide +kernel⟩
theorem gm_1514 : Cond.methodLink RL 131 yX9_number ∈ gG := gG_in 1514 (by decide +kernel) (by decide +kernel)
theorem gm_1515 : Cond.instanceMethod yX9_number ∈ gG := gG_in 1515 (by decide +kernel) (by decide +kernel)
theorem gm_1516 : Cond.selects yX9_number.cls yX9_number yX9_number ∈ gG := gG_in 1516 (by decide +kernel) (by decide +kernel)
theorem gm_1517 : Cond.code yX9_number cX9_number 3 (some .int) ∈ gG := gG_in 1517 (by decide +kernel) (by decide +kernel)
theorem cvM_131 : gCV RL 131 yX9_number cX9_number 3 (some .int) 2 := ⟨gm_1514, gm_1515, gm_1516, gm_100, gm_1517, by decide +kernel⟩
set_option maxHeartbeats 4000000 in
set_option maxRecDepth 100000 in
theorem lc_6 {w : gW} {p : Program} {l : Launch} {e : Env} {s : State} {m : MethodId} {below : List Frame} {meth : Method} {c : Code} {b L : Nat} {xs : Nat → Int32} {Q : State → Prop} (hM : gMD w p l s m [Value.ref b].toArray c cL_law 9 RL) (hl9 : l.stackTraces = false) (hS : gSc w s b L xs) {i : Nat} (hi : i + 6 ≤ L) {M : gMem} {K : Int} (hR : REL M K) (hK : K + 12000 ≤ 70000000) {H : Heap} {locs : List Loc} {cells slots : Nat} {ls : Array Slot} (hH : gH w gN gRm M s H locs) (hc : cells + 10 ≤ 601024 ∧ slots + 100 ≤ 7293034) (hl : lv_has ls 9 [(0, .ref b), (1, .ref (w.1 + 1)), (2, .ref (w.1 + 855)), (3, .ref (w.1 + 864)), (4, .int (gi (i : Int)))])
    (kk : ∀ H locs ls M K', gH w gN gRm M s H locs → REL M K' → K' ≤ K + 12000 → lv_has ls 9 [(0, .ref b), (1, .ref (w.1 + 1)), (2, .ref (w.1 + 855)), (3, .ref (w.1 + 864)), (4, .int (gi (i : Int)))] → W p l e room_1 s m [Value.ref b].toArray below meth c H locs (cells + 10) (slots + 100) Q (F0 m 1972 ls [])) :
    W p l e room_1 s m [Value.ref b].toArray below meth c H locs cells slots Q (F0 m 518 ls []) := by
  obtain ⟨res, e1, he, hz⟩ := z_number (y1 := sx xs i 1) (y2 := sx xs i 2) hR
  obtain ⟨M2, e2, v7, v8, hR2⟩ := hz (gWm res M) (gWm_out res M)
  refine lv_aload_n hM.fx.1 hM.fx.2.1 dL_law_518 rfl (lv_at hl 1 rfl) ?_
  refine l_arg (k := 1) hM hS hi (by decide) (lv_at hl 0 rfl) (lv_at hl 4 rfl) dL_law_519 dL_law_520 dL_law_522 dL_law_523 dL_law_524 hH ?_
  refine l_arg (k := 2) hM hS hi (by decide) (lv_at hl 0 rfl) (lv_at hl 4 rfl) dL_law_525 dL_law_526 dL_law_528 dL_law_529 dL_law_530 hH ?_
  refine lv_aload_n hM.fx.1 hM.fx.2.1 dL_law_531 rfl (lv_at hl 3 rfl) ?_
  refine r_go1 (rest := []) (v := .int (gi (qThr 3 res))) hH rfl (r_runX (As := [.ref (w.1 + 1), .int (gi (sx xs i 1)), .int (gi (sx xs i 2)), .ref (w.1 + 864)]) hM hH csM_129 (wL_number hl9 (sx_r xs i 1) (sx_r xs i 2) e1 he) rfl hl.1 rfl (Nat.le_of_ble_eq_true rfl) ⟨Nat.le_of_ble_eq_true rfl, Nat.le_of_ble_eq_true rfl⟩ ⟨by show cells + 1 ≤ 601024; omega, by show slots + 6 ≤ 7293034; omega⟩ dL_law_532) (fun hz0 H locs hH => ?_)
  refine lv_istore (lv' := [(5, .int (gi (qThr 3 res))), (0, .ref b), (1, .ref (w.1 + 1)), (2, .ref (w.1 + 855)), (3, .ref (w.1 + 864)), (4, .int (gi (i : Int)))]) hM.fx.1 hM.fx.2.1 dL_law_535 hl (by decide) rfl (fun ls hl => ?_)
  refine lv_aload_n hM.fx.1 hM.fx.2.1 dL_law_537 rfl (lv_at hl 3 rfl) ?_
  refine l_arg (k := 1) hM hS hi (by decide) (lv_at hl 1 rfl) (lv_at hl 5 rfl) dL_law_538 dL_law_539 dL_law_541 dL_law_542 dL_law_543 hH ?_
  refine l_arg (k := 2) hM hS hi (by decide) (lv_at hl 1 rfl) (lv_at hl 5 rfl) dL_law_544 dL_law_545 dL_law_547 dL_law_548 dL_law_549 hH ?_
  refine r_go1 (rest := []) (v := .int (gi (qWert res))) hH rfl (r_runVD (As := [.int (gi (sx xs i 1)), .int (gi (sx xs i 2))]) (b := 855) (t := 9) hM hH cvM_131 (mX9_number gLC_main hl9 (g := gsh) (by decide +kernel) (sx_r xs i 1) (sx_r xs i 2) e2) ⟨by decide, by decide, by decide +kernel⟩ (by decide) rfl rfl rfl hl.1 rfl (Nat.le_of_ble_eq_true rfl) ⟨Nat.le_of_ble_eq_true rfl, Nat.le_of_ble_eq_true rfl⟩ ⟨by show cells + 1 + 0 ≤ 601024; omega, by show slots + 6 + 0 ≤ 7293034; omega⟩ dL_law_550) (fun hz1 H locs hH => ?_)
  refine l_tail (M := M2) (q := 553) hM hl9 hH (res := res) v7 (fun z h => by rw [v8]; subst h; exact gup_hit rfl rfl) hz1 hl (kk := ?_) cvM_107 (by show cells + 1 + 0 ≤ 601024; omega) (by show slots + 6 + 0 ≤ 7293034; omega) dL_law_553 dL_law_555 dL_law_556 dL_law_559 dL_law_561 dL_law_566 dL_law_568 dL_law_571 dL_law_572 dL_law_573 dL_law_574 dL_law_576 dL_law_577 dL_law_578 dL_law_583 (by decide)
  intro H locs ls hH hl
  exact W.widen (by show cells + 1 + 0 ≤ cells + 10; omega) (by show slots + 6 + 0 ≤ slots + 100; omega) (kk H locs ls M2 _ hH hR2 (by omega) hl)
theorem gm_1001 : Cond.methodLink RL 132 yL_slot ∈ gG := gG_in 1001 (by decide +kernel) (by decide +kernel)
theorem gm_1002 : Cond.static yL_slot ∈ gG := gG_in 1002 (by decide +kernel) (by decide +kernel)
theorem csM_132 : gCW RL 132 yL_slot cL_slot 4 [(0, 9, 12, 25)] 3 := ⟨gm_1001, gm_1002, gm_91, gl_1003, by decide +kernel⟩
theorem gm_1519 : Cond.methodLink RL 134 yX9_slot ∈ gG := gG_in 1519 (by decide +kernel) (by decide +kernel)
theorem gm_1520 : Cond.instanceMethod yX9_slot ∈ gG := gG_in 1520 (by decide +kernel) (by decide +kernel)
theorem gm_1521 : Cond.selects yX9_slot.cls yX9_slot yX9_slot ∈ gG := gG_in 1521 (by decide +kernel) (by decide +kernel)
theorem gm_1522 : Cond.code yX9_slot cX9_slot 2 (some .int) ∈ gG := gG_in 1522 (by decide +kernel) (by decide +kernel)
theorem cvM_134 : gCV RL 134 yX9_slot cX9_slot 2 (some .int) 1 := ⟨gm_1519, gm_1520, gm_1521, gm_100, gm_1522, by decide +kernel⟩
set_option maxHeartbeats 4000000 in
set_option maxRecDepth 100000 in
theorem lc_7 {w : gW} {p : Program} {l : Launch} {e : Env} {s : State} {m : MethodId} {below : List Frame} {meth : Method} {c : Code} {b L : Nat} {xs : Nat → Int32} {Q : State → Prop} (hM : gMD w p l s m [Value.ref b].toArray c cL_law 9 RL) (hl9 : l.stackTraces = false) (hS : gSc w s b L xs) {i : Nat} (hi : i + 6 ≤ L) {M : gMem} {K : Int} (hR : REL M K) (hK : K + 12000 ≤ 70000000) {H : Heap} {locs : List Loc} {cells slots : Nat} {ls : Array Slot} (hH : gH w gN gRm M s H locs) (hc : cells + 10 ≤ 601024 ∧ slots + 100 ≤ 7293034) (hl : lv_has ls 9 [(0, .ref b), (1, .ref (w.1 + 1)), (2, .ref (w.1 + 855)), (3, .ref (w.1 + 864)), (4, .int (gi (i : Int)))])
    (kk : ∀ H locs ls M K', gH w gN gRm M s H locs → REL M K' → K' ≤ K + 12000 → lv_has ls 9 [(0, .ref b), (1, .ref (w.1 + 1)), (2, .ref (w.1 + 855)), (3, .ref (w.1 + 864)), (4, .int (gi (i : Int)))] → W p l e room_1 s m [Value.ref b].toArray below meth c H locs (cells + 10) (slots + 100) Q (F0 m 1972 ls [])) :
    W p l e room_1 s m [Value.ref b].toArray below meth c H locs cells slots Q (F0 m 586 ls []) := by
  obtain ⟨res, e1, he, hz⟩ := z_slot (y1 := sx xs i 1) hR
  obtain ⟨M2, e2, v7, v8, hR2⟩ := hz (gWm res M) (gWm_out res M)
  refine lv_aload_n hM.fx.1 hM.fx.2.1 dL_law_586 rfl (lv_at hl 1 rfl) ?_
  refine l_arg (k := 1) hM hS hi (by decide) (lv_at hl 0 rfl) (lv_at hl 4 rfl) dL_law_587 dL_law_588 dL_law_590 dL_law_591 dL_law_592 hH ?_
  refine lv_aload_n hM.fx.1 hM.fx.2.1 dL_law_593 rfl (lv_at hl 3 rfl) ?_
  refine r_go1 (rest := []) (v := .int (gi (qThr 3 res))) hH rfl (r_runX (As := [.ref (w.1 + 1), .int (gi (sx xs i 1)), .ref (w.1 + 864)]) hM hH csM_132 (wL_slot hl9 (sx_r xs i 1) e1 he) rfl hl.1 rfl (Nat.le_of_ble_eq_true rfl) ⟨Nat.le_of_ble_eq_true rfl, Nat.le_of_ble_eq_true rfl⟩ ⟨by show cells + 1 ≤ 601024; omega, by show slots + 6 ≤ 7293034; omega⟩ dL_law_594) (fun hz0 H locs hH => ?_)
  refine lv_istore (lv' := [(5, .int (gi (qThr 3 res))), (0, .ref b), (1, .ref (w.1 + 1)), (2, .ref (w.1 + 855)), (3, .ref (w.1 + 864)), (4, .int (gi (i : Int)))]) hM.fx.1 hM.fx.2.1 dL_law_597 hl (by decide) rfl (fun ls hl => ?_)
  refine lv_aload_n hM.fx.1 hM.fx.2.1 dL_law_599 rfl (lv_at hl 3 rfl) ?_
  refine l_arg (k := 1) hM hS hi (by decide) (lv_at hl 1 rfl) (lv_at hl 5 rfl) dL_law_600 dL_law_601 dL_law_603 dL_law_604 dL_law_605 hH ?_
  refine r_go1 (rest := []) (v := .int (gi (qWert res))) hH rfl (r_runVD (As := [.int (gi (sx xs i 1))]) (b := 855) (t := 9) hM hH cvM_134 (mX9_slot gLC_main hl9 (g := gsh) (by decide +kernel) (sx_r xs i 1) e2) ⟨by decide, by decide, by decide +kernel⟩ (by decide) rfl rfl rfl hl.1 rfl (Nat.le_of_ble_eq_true rfl) ⟨Nat.le_of_ble_eq_true rfl, Nat.le_of_ble_eq_true rfl⟩ ⟨by show cells + 1 + 0 ≤ 601024; omega, by show slots + 6 + 0 ≤ 7293034; omega⟩ dL_law_606) (fun hz1 H locs hH => ?_)
  refine l_tail (M := M2) (q := 609) hM hl9 hH (res := res) v7 (fun z h => by rw [v8]; subst h; exact gup_hit rfl rfl) hz1 hl (kk := ?_) cvM_107 (by show cells + 1 + 0 ≤ 601024; omega) (by show slots + 6 + 0 ≤ 7293034; omega) dL_law_609 dL_law_611 dL_law_612 dL_law_615 dL_law_617 dL_law_622 dL_law_624 dL_law_627 dL_law_628 dL_law_629 dL_law_630 dL_law_632 dL_law_633 dL_law_634 dL_law_639 (by decide)
  intro H locs ls hH hl
  exact W.widen (by show cells + 1 + 0 ≤ cells + 10; omega) (by show slots + 6 + 0 ≤ slots + 100; omega) (kk H locs ls M2 _ hH hR2 (by omega) hl)
theorem gm_1018 : Cond.methodLink RL 135 yL_command ∈ gG := gG_in 1018 (by decide +kernel) (by decide +kernel)
theorem gm_1019 : Cond.static yL_command ∈ gG := gG_in 1019 (by decide +kernel) (by decide +kernel)
theorem csM_135 : gCW RL 135 yL_command cL_command 6 [(0, 12, 15, 25), (0, 12, 19, 19)] 5 := ⟨gm_1018, gm_1019, gm_91, gl_1020, by decide +kernel⟩
theorem gm_1527 : Cond.methodLink RL 138 yX9_command ∈ gG := gG_in 1527 (by decide +kernel) (by decide +kernel)
theorem gm_1528 : Cond.instanceMethod yX9_command ∈ gG := gG_in 1528 (by decide +kernel) (by decide +kernel)
theorem gm_1529 : Cond.selects yX9_command.cls yX9_command yX9_command ∈ gG := gG_in 1529 (by decide +kernel) (by decide +kernel)
theorem gm_1530 : Cond.code yX9_command cX9_command 4 (some .int) ∈ gG := gG_in 1530 (by decide +kernel) (by decide +kernel)
theorem cvM_138 : gCV RL 138 yX9_command cX9_command 4 (some .int) 3 := ⟨gm_1527, gm_1528, gm_1529, gm_100, gm_1530, by decide +kernel⟩
set_option maxHeartbeats 4000000 in
set_option maxRecDepth 100000 in
theorem lc_8 {w : gW} {p : Program} {l : Launch} {e : Env} {s : State} {m : MethodId} {below : List Frame} {meth : Method} {c : Code} {b L : Nat} {xs : Nat → Int32} {Q : State → Prop} (hM : gMD w p l s m [Value.ref b].toArray c cL_law 9 RL) (hl9 : l.stackTraces = false) (hS : gSc w s b L xs) {i : Nat} (hi : i + 6 ≤ L) {M : gMem} {K : Int} (hR : REL M K) (hK : K + 12000 ≤ 70000000) {H : Heap} {locs : List Loc} {cells slots : Nat} {ls : Array Slot} (hH : gH w gN gRm M s H locs) (hc : cells + 10 ≤ 601024 ∧ slots + 100 ≤ 7293034) (hl : lv_has ls 9 [(0, .ref b), (1, .ref (w.1 + 1)), (2, .ref (w.1 + 855)), (3, .ref (w.1 + 864)), (4, .int (gi (i : Int)))])
    (kk : ∀ H locs ls M K', gH w gN gRm M s H locs → REL M K' → K' ≤ K + 12000 → lv_has ls 9 [(0, .ref b), (1, .ref (w.1 + 1)), (2, .ref (w.1 + 855)), (3, .ref (w.1 + 864)), (4, .int (gi (i : Int)))] → W p l e room_1 s m [Value.ref b].toArray below meth c H locs (cells + 10) (slots + 100) Q (F0 m 1972 ls [])) :
    W p l e room_1 s m [Value.ref b].toArray below meth c H locs cells slots Q (F0 m 642 ls []) := by
  obtain ⟨res, e1, he, hz⟩ := z_command (y1 := sx xs i 1) (y2 := sx xs i 2) (y3 := sx xs i 3) hR
  obtain ⟨M2, e2, v7, v8, hR2⟩ := hz (gWm res M) (gWm_out res M)
  refine lv_aload_n hM.fx.1 hM.fx.2.1 dL_law_642 rfl (lv_at hl 1 rfl) ?_
  refine l_arg (k := 1) hM hS hi (by decide) (lv_at hl 0 rfl) (lv_at hl 4 rfl) dL_law_643 dL_law_644 dL_law_646 dL_law_647 dL_law_648 hH ?_
  refine l_arg (k := 2) hM hS hi (by decide) (lv_at hl 0 rfl) (lv_at hl 4 rfl) dL_law_649 dL_law_650 dL_law_652 dL_law_653 dL_law_654 hH ?_
  refine l_arg (k := 3) hM hS hi (by decide) (lv_at hl 0 rfl) (lv_at hl 4 rfl) dL_law_655 dL_law_656 dL_law_658 dL_law_659 dL_law_660 hH ?_
  refine lv_aload_n hM.fx.1 hM.fx.2.1 dL_law_661 rfl (lv_at hl 3 rfl) ?_
  refine r_go1 (rest := []) (v := .int (gi (qThr 3 res))) hH rfl (r_runX (As := [.ref (w.1 + 1), .int (gi (sx xs i 1)), .int (gi (sx xs i 2)), .int (gi (sx xs i 3)), .ref (w.1 + 864)]) hM hH csM_135 (wL_command hl9 (sx_r xs i 1) (sx_r xs i 2) (sx_r xs i 3) e1 he) rfl hl.1 rfl (Nat.le_of_ble_eq_true rfl) ⟨Nat.le_of_ble_eq_true rfl, Nat.le_of_ble_eq_true rfl⟩ ⟨by show cells + 3 ≤ 601024; omega, by show slots + 18 ≤ 7293034; omega⟩ dL_law_662) (fun hz0 H locs hH => ?_)
  refine lv_istore (lv' := [(5, .int (gi (qThr 3 res))), (0, .ref b), (1, .ref (w.1 + 1)), (2, .ref (w.1 + 855)), (3, .ref (w.1 + 864)), (4, .int (gi (i : Int)))]) hM.fx.1 hM.fx.2.1 dL_law_665 hl (by decide) rfl (fun ls hl => ?_)
  refine lv_aload_n hM.fx.1 hM.fx.2.1 dL_law_667 rfl (lv_at hl 3 rfl) ?_
  refine l_arg (k := 1) hM hS hi (by decide) (lv_at hl 1 rfl) (lv_at hl 5 rfl) dL_law_668 dL_law_669 dL_law_671 dL_law_672 dL_law_673 hH ?_
  refine l_arg (k := 2) hM hS hi (by decide) (lv_at hl 1 rfl) (lv_at hl 5 rfl) dL_law_674 dL_law_675 dL_law_677 dL_law_678 dL_law_679 hH ?_
  refine l_arg (k := 3) hM hS hi (by decide) (lv_at hl 1 rfl) (lv_at hl 5 rfl) dL_law_680 dL_law_681 dL_law_683 dL_law_684 dL_law_685 hH ?_
  refine r_go1 (rest := []) (v := .int (gi (qWert res))) hH rfl (r_runVD (As := [.int (gi (sx xs i 1)), .int (gi (sx xs i 2)), .int (gi (sx xs i 3))]) (b := 855) (t := 9) hM hH cvM_138 (mX9_command gLC_main hl9 (g := gsh) (by decide +kernel) (sx_r xs i 1) (sx_r xs i 2) (sx_r xs i 3) e2) ⟨by decide, by decide, by decide +kernel⟩ (by decide) rfl rfl rfl hl.1 rfl (Nat.le_of_ble_eq_true rfl) ⟨Nat.le_of_ble_eq_true rfl, Nat.le_of_ble_eq_true rfl⟩ ⟨by show cells + 3 + 0 ≤ 601024; omega, by show slots + 18 + 0 ≤ 7293034; omega⟩ dL_law_686) (fun hz1 H locs hH => ?_)
  refine l_tail (M := M2) (q := 689) hM hl9 hH (res := res) v7 (fun z h => by rw [v8]; subst h; exact gup_hit rfl rfl) hz1 hl (kk := ?_) cvM_107 (by show cells + 3 + 0 ≤ 601024; omega) (by show slots + 18 + 0 ≤ 7293034; omega) dL_law_689 dL_law_691 dL_law_692 dL_law_695 dL_law_697 dL_law_702 dL_law_704 dL_law_707 dL_law_708 dL_law_709 dL_law_710 dL_law_712 dL_law_713 dL_law_714 dL_law_719 (by decide)
  intro H locs ls hH hl
  exact W.widen (by show cells + 3 + 0 ≤ cells + 10; omega) (by show slots + 18 + 0 ≤ slots + 100; omega) (kk H locs ls M2 _ hH hR2 (by omega) hl)
theorem gm_1029 : Cond.methodLink RL 139 yL_said ∈ gG := gG_in 1029 (by decide +kernel) (by decide +kernel)
theorem gm_1030 : Cond.static yL_said ∈ gG := gG_in 1030 (by decide +kernel) (by decide +kernel)
theorem csM_139 : gCW RL 139 yL_said cL_said 5 [(0, 10, 13, 25)] 4 := ⟨gm_1029, gm_1030, gm_91, gl_1031, by decide +kernel⟩
theorem gm_1531 : Cond.methodLink RL 141 yX9_said ∈ gG := gG_in 1531 (by decide +kernel) (by decide +kernel)
theorem gm_1532 : Cond.instanceMethod yX9_said ∈ gG := gG_in 1532 (by decide +kernel) (by decide +kernel)
theorem gm_1533 : Cond.selects yX9_said.cls yX9_said yX9_said ∈ gG := gG_in 1533 (by decide +kernel) (by decide +kernel)
theorem gm_1534 : Cond.code yX9_said cX9_said 3 (some .int) ∈ gG := gG_in 1534 (by decide +kernel) (by decide +kernel)
theorem cvM_141 : gCV RL 141 yX9_said cX9_said 3 (some .int) 2 := ⟨gm_1531, gm_1532, gm_1533, gm_100, gm_1534, by decide +kernel⟩
set_option maxHeartbeats 4000000 in
set_option maxRecDepth 100000 in
theorem lc_9 {w : gW} {p : Program} {l : Launch} {e : Env} {s : State} {m : MethodId} {below : List Frame} {meth : Method} {c : Code} {b L : Nat} {xs : Nat → Int32} {Q : State → Prop} (hM : gMD w p l s m [Value.ref b].toArray c cL_law 9 RL) (hl9 : l.stackTraces = false) (hS : gSc w s b L xs) {i : Nat} (hi : i + 6 ≤ L) {M : gMem} {K : Int} (hR : REL M K) (hK : K + 12000 ≤ 70000000) {H : Heap} {locs : List Loc} {cells slots : Nat} {ls : Array Slot} (hH : gH w gN gRm M s H locs) (hc : cells + 10 ≤ 601024 ∧ slots + 100 ≤ 7293034) (hl : lv_has ls 9 [(0, .ref b), (1, .ref (w.1 + 1)), (2, .ref (w.1 + 855)), (3, .ref (w.1 + 864)), (4, .int (gi (i : Int)))])
    (kk : ∀ H locs ls M K', gH w gN gRm M s H locs → REL M K' → K' ≤ K + 12000 → lv_has ls 9 [(0, .ref b), (1, .ref (w.1 + 1)), (2, .ref (w.1 + 855)), (3, .ref (w.1 + 864)), (4, .int (gi (i : Int)))] → W p l e room_1 s m [Value.ref b].toArray below meth c H locs (cells + 10) (slots + 100) Q (F0 m 1972 ls [])) :
    W p l e room_1 s m [Value.ref b].toArray below meth c H locs cells slots Q (F0 m 722 ls []) := by
  obtain ⟨res, e1, he, hz⟩ := z_said (y1 := sx xs i 1) (y2 := sx xs i 2) hR
  obtain ⟨M2, e2, v7, v8, hR2⟩ := hz (gWm res M) (gWm_out res M)
  refine lv_aload_n hM.fx.1 hM.fx.2.1 dL_law_722 rfl (lv_at hl 1 rfl) ?_
  refine l_arg (k := 1) hM hS hi (by decide) (lv_at hl 0 rfl) (lv_at hl 4 rfl) dL_law_723 dL_law_724 dL_law_726 dL_law_727 dL_law_728 hH ?_
  refine l_arg (k := 2) hM hS hi (by decide) (lv_at hl 0 rfl) (lv_at hl 4 rfl) dL_law_729 dL_law_730 dL_law_732 dL_law_733 dL_law_734 hH ?_
  refine lv_aload_n hM.fx.1 hM.fx.2.1 dL_law_735 rfl (lv_at hl 3 rfl) ?_
  refine r_go1 (rest := []) (v := .int (gi (qThr 3 res))) hH rfl (r_runX (As := [.ref (w.1 + 1), .int (gi (sx xs i 1)), .int (gi (sx xs i 2)), .ref (w.1 + 864)]) hM hH csM_139 (wL_said hl9 (sx_r xs i 1) (sx_r xs i 2) e1 he) rfl hl.1 rfl (Nat.le_of_ble_eq_true rfl) ⟨Nat.le_of_ble_eq_true rfl, Nat.le_of_ble_eq_true rfl⟩ ⟨by show cells + 1 ≤ 601024; omega, by show slots + 6 ≤ 7293034; omega⟩ dL_law_736) (fun hz0 H locs hH => ?_)
  refine lv_istore (lv' := [(5, .int (gi (qThr 3 res))), (0, .ref b), (1, .ref (w.1 + 1)), (2, .ref (w.1 + 855)), (3, .ref (w.1 + 864)), (4, .int (gi (i : Int)))]) hM.fx.1 hM.fx.2.1 dL_law_739 hl (by decide) rfl (fun ls hl => ?_)
  refine lv_aload_n hM.fx.1 hM.fx.2.1 dL_law_741 rfl (lv_at hl 3 rfl) ?_
  refine l_arg (k := 1) hM hS hi (by decide) (lv_at hl 1 rfl) (lv_at hl 5 rfl) dL_law_742 dL_law_743 dL_law_745 dL_law_746 dL_law_747 hH ?_
  refine l_arg (k := 2) hM hS hi (by decide) (lv_at hl 1 rfl) (lv_at hl 5 rfl) dL_law_748 dL_law_749 dL_law_751 dL_law_752 dL_law_753 hH ?_
  refine r_go1 (rest := []) (v := .int (gi (qWert res))) hH rfl (r_runVD (As := [.int (gi (sx xs i 1)), .int (gi (sx xs i 2))]) (b := 855) (t := 9) hM hH cvM_141 (mX9_said gLC_main hl9 (g := gsh) (by decide +kernel) (sx_r xs i 1) (sx_r xs i 2) e2) ⟨by decide, by decide, by decide +kernel⟩ (by decide) rfl rfl rfl hl.1 rfl (Nat.le_of_ble_eq_true rfl) ⟨Nat.le_of_ble_eq_true rfl, Nat.le_of_ble_eq_true rfl⟩ ⟨by show cells + 1 + 0 ≤ 601024; omega, by show slots + 6 + 0 ≤ 7293034; omega⟩ dL_law_754) (fun hz1 H locs hH => ?_)
  refine l_tail (M := M2) (q := 757) hM hl9 hH (res := res) v7 (fun z h => by rw [v8]; subst h; exact gup_hit rfl rfl) hz1 hl (kk := ?_) cvM_107 (by show cells + 1 + 0 ≤ 601024; omega) (by show slots + 6 + 0 ≤ 7293034; omega) dL_law_757 dL_law_759 dL_law_760 dL_law_763 dL_law_765 dL_law_770 dL_law_772 dL_law_775 dL_law_776 dL_law_777 dL_law_778 dL_law_780 dL_law_781 dL_law_782 dL_law_787 (by decide)
  intro H locs ls hH hl
  exact W.widen (by show cells + 1 + 0 ≤ cells + 10; omega) (by show slots + 6 + 0 ≤ slots + 100; omega) (kk H locs ls M2 _ hH hR2 (by omega) hl)
theorem gm_1041 : Cond.methodLink RL 142 yL_trace ∈ gG := gG_in 1041 (by decide +kernel) (by decide +kernel)
theorem gm_1042 : Cond.static yL_trace ∈ gG := gG_in 1042 (by decide +kernel) (by decide +kernel)
theorem csM_142 : gCW RL 142 yL_trace cL_trace 5 [(0, 10, 13, 25), (0, 10, 17, 19)] 4 := ⟨gm_1041, gm_1042, gm_91, gl_1043, by decide +kernel⟩
theorem gm_1539 : Cond.methodLink RL 144 yX9_trace ∈ gG := gG_in 1539 (by decide +kernel) (by decide +kernel)
theorem gm_1540 : Cond.instanceMethod yX9_trace ∈ gG := gG_in 1540 (by decide +kernel) (by decide +kernel)
theorem gm_1541 : Cond.selects yX9_trace.cls yX9_trace yX9_trace ∈ gG := gG_in 1541 (by decide +kernel) (by decide +kernel)
theorem gm_1542 : Cond.code yX9_trace cX9_trace 3 (some .int) ∈ gG := gG_in 1542 (by decide +kernel) (by decide +kernel)
theorem cvM_144 : gCV RL 144 yX9_trace cX9_trace 3 (some .int) 2 := ⟨gm_1539, gm_1540, gm_1541, gm_100, gm_1542, by decide +kernel⟩
set_option maxHeartbeats 4000000 in
set_option maxRecDepth 100000 in
theorem lc_10 {w : gW} {p : Program} {l : Launch} {e : Env} {s : State} {m : MethodId} {below : List Frame} {meth : Method} {c : Code} {b L : Nat} {xs : Nat → Int32} {Q : State → Prop} (hM : gMD w p l s m [Value.ref b].toArray c cL_law 9 RL) (hl9 : l.stackTraces = false) (hS : gSc w s b L xs) {i : Nat} (hi : i + 6 ≤ L) {M : gMem} {K : Int} (hR : REL M K) (hK : K + 12000 ≤ 70000000) {H : Heap} {locs : List Loc} {cells slots : Nat} {ls : Array Slot} (hH : gH w gN gRm M s H locs) (hc : cells + 10 ≤ 601024 ∧ slots + 100 ≤ 7293034) (hl : lv_has ls 9 [(0, .ref b), (1, .ref (w.1 + 1)), (2, .ref (w.1 + 855)), (3, .ref (w.1 + 864)), (4, .int (gi (i : Int)))])
    (kk : ∀ H locs ls M K', gH w gN gRm M s H locs → REL M K' → K' ≤ K + 12000 → lv_has ls 9 [(0, .ref b), (1, .ref (w.1 + 1)), (2, .ref (w.1 + 855)), (3, .ref (w.1 + 864)), (4, .int (gi (i : Int)))] → W p l e room_1 s m [Value.ref b].toArray below meth c H locs (cells + 10) (slots + 100) Q (F0 m 1972 ls [])) :
    W p l e room_1 s m [Value.ref b].toArray below meth c H locs cells slots Q (F0 m 790 ls []) := by
  obtain ⟨res, e1, he, hz⟩ := z_trace (y1 := sx xs i 1) (y2 := sx xs i 2) hR
  obtain ⟨M2, e2, v7, v8, hR2⟩ := hz (gWm res M) (gWm_out res M)
  refine lv_aload_n hM.fx.1 hM.fx.2.1 dL_law_790 rfl (lv_at hl 1 rfl) ?_
  refine l_arg (k := 1) hM hS hi (by decide) (lv_at hl 0 rfl) (lv_at hl 4 rfl) dL_law_791 dL_law_792 dL_law_794 dL_law_795 dL_law_796 hH ?_
  refine l_arg (k := 2) hM hS hi (by decide) (lv_at hl 0 rfl) (lv_at hl 4 rfl) dL_law_797 dL_law_798 dL_law_800 dL_law_801 dL_law_802 hH ?_
  refine lv_aload_n hM.fx.1 hM.fx.2.1 dL_law_803 rfl (lv_at hl 3 rfl) ?_
  refine r_go1 (rest := []) (v := .int (gi (qThr 3 res))) hH rfl (r_runX (As := [.ref (w.1 + 1), .int (gi (sx xs i 1)), .int (gi (sx xs i 2)), .ref (w.1 + 864)]) hM hH csM_142 (wL_trace hl9 (sx_r xs i 1) (sx_r xs i 2) e1 he) rfl hl.1 rfl (Nat.le_of_ble_eq_true rfl) ⟨Nat.le_of_ble_eq_true rfl, Nat.le_of_ble_eq_true rfl⟩ ⟨by show cells + 2 ≤ 601024; omega, by show slots + 12 ≤ 7293034; omega⟩ dL_law_804) (fun hz0 H locs hH => ?_)
  refine lv_istore (lv' := [(5, .int (gi (qThr 3 res))), (0, .ref b), (1, .ref (w.1 + 1)), (2, .ref (w.1 + 855)), (3, .ref (w.1 + 864)), (4, .int (gi (i : Int)))]) hM.fx.1 hM.fx.2.1 dL_law_807 hl (by decide) rfl (fun ls hl => ?_)
  refine lv_aload_n hM.fx.1 hM.fx.2.1 dL_law_809 rfl (lv_at hl 3 rfl) ?_
  refine l_arg (k := 1) hM hS hi (by decide) (lv_at hl 1 rfl) (lv_at hl 5 rfl) dL_law_810 dL_law_811 dL_law_813 dL_law_814 dL_law_815 hH ?_
  refine l_arg (k := 2) hM hS hi (by decide) (lv_at hl 1 rfl) (lv_at hl 5 rfl) dL_law_816 dL_law_817 dL_law_819 dL_law_820 dL_law_821 hH ?_
  refine r_go1 (rest := []) (v := .int (gi (qWert res))) hH rfl (r_runVD (As := [.int (gi (sx xs i 1)), .int (gi (sx xs i 2))]) (b := 855) (t := 9) hM hH cvM_144 (mX9_trace gLC_main hl9 (g := gsh) (by decide +kernel) (sx_r xs i 1) (sx_r xs i 2) e2) ⟨by decide, by decide, by decide +kernel⟩ (by decide) rfl rfl rfl hl.1 rfl (Nat.le_of_ble_eq_true rfl) ⟨Nat.le_of_ble_eq_true rfl, Nat.le_of_ble_eq_true rfl⟩ ⟨by show cells + 2 + 0 ≤ 601024; omega, by show slots + 12 + 0 ≤ 7293034; omega⟩ dL_law_822) (fun hz1 H locs hH => ?_)
  refine l_tail (M := M2) (q := 825) hM hl9 hH (res := res) v7 (fun z h => by rw [v8]; subst h; exact gup_hit rfl rfl) hz1 hl (kk := ?_) cvM_107 (by show cells + 2 + 0 ≤ 601024; omega) (by show slots + 12 + 0 ≤ 7293034; omega) dL_law_825 dL_law_827 dL_law_828 dL_law_831 dL_law_833 dL_law_838 dL_law_840 dL_law_843 dL_law_844 dL_law_845 dL_law_846 dL_law_848 dL_law_849 dL_law_850 dL_law_855 (by decide)
  intro H locs ls hH hl
  exact W.widen (by show cells + 2 + 0 ≤ cells + 10; omega) (by show slots + 12 + 0 ≤ slots + 100; omega) (kk H locs ls M2 _ hH hR2 (by omega) hl)
theorem gm_1054 : Cond.methodLink RL 145 yL_whyStuck ∈ gG := gG_in 1054 (by decide +kernel) (by decide +kernel)
theorem gm_1055 : Cond.static yL_whyStuck ∈ gG := gG_in 1055 (by decide +kernel) (by decide +kernel)
theorem csM_145 : gCW RL 145 yL_whyStuck cL_whyStuck 4 [(0, 9, 12, 25)] 3 := ⟨gm_1054, gm_1055, gm_91, gl_1056, by decide +kernel⟩
theorem gm_1543 : Cond.methodLink RL 147 yX9_whyStuck ∈ gG := gG_in 1543 (by decide +kernel) (by decide +kernel)
theorem gm_1544 : Cond.instanceMethod yX9_whyStuck ∈ gG := gG_in 1544 (by decide +kernel) (by decide +kernel)
theorem gm_1545 : Cond.selects yX9_whyStuck.cls yX9_whyStuck yX9_whyStuck ∈ gG := gG_in 1545 (by decide +kernel) (by decide +kernel)
theorem gm_1546 : Cond.code yX9_whyStuck cX9_whyStuck 2 (some .int) ∈ gG := gG_in 1546 (by decide +kernel) (by decide +kernel)
theorem cvM_147 : gCV RL 147 yX9_whyStuck cX9_whyStuck 2 (some .int) 1 := ⟨gm_1543, gm_1544, gm_1545, gm_100, gm_1546, by decide +kernel⟩
set_option maxHeartbeats 4000000 in
set_option maxRecDepth 100000 in
theorem lc_11 {w : gW} {p : Program} {l : Launch} {e : Env} {s : State} {m : MethodId} {below : List Frame} {meth : Method} {c : Code} {b L : Nat} {xs : Nat → Int32} {Q : State → Prop} (hM : gMD w p l s m [Value.ref b].toArray c cL_law 9 RL) (hl9 : l.stackTraces = false) (hS : gSc w s b L xs) {i : Nat} (hi : i + 6 ≤ L) {M : gMem} {K : Int} (hR : REL M K) (hK : K + 12000 ≤ 70000000) {H : Heap} {locs : List Loc} {cells slots : Nat} {ls : Array Slot} (hH : gH w gN gRm M s H locs) (hc : cells + 10 ≤ 601024 ∧ slots + 100 ≤ 7293034) (hl : lv_has ls 9 [(0, .ref b), (1, .ref (w.1 + 1)), (2, .ref (w.1 + 855)), (3, .ref (w.1 + 864)), (4, .int (gi (i : Int)))])
    (kk : ∀ H locs ls M K', gH w gN gRm M s H locs → REL M K' → K' ≤ K + 12000 → lv_has ls 9 [(0, .ref b), (1, .ref (w.1 + 1)), (2, .ref (w.1 + 855)), (3, .ref (w.1 + 864)), (4, .int (gi (i : Int)))] → W p l e room_1 s m [Value.ref b].toArray below meth c H locs (cells + 10) (slots + 100) Q (F0 m 1972 ls [])) :
    W p l e room_1 s m [Value.ref b].toArray below meth c H locs cells slots Q (F0 m 858 ls []) := by
  obtain ⟨res, e1, he, hz⟩ := z_whyStuck (y1 := sx xs i 1) hR
  obtain ⟨M2, e2, v7, v8, hR2⟩ := hz (gWm res M) (gWm_out res M)
  refine lv_aload_n hM.fx.1 hM.fx.2.1 dL_law_858 rfl (lv_at hl 1 rfl) ?_
  refine l_arg (k := 1) hM hS hi (by decide) (lv_at hl 0 rfl) (lv_at hl 4 rfl) dL_law_859 dL_law_860 dL_law_862 dL_law_863 dL_law_864 hH ?_
  refine lv_aload_n hM.fx.1 hM.fx.2.1 dL_law_865 rfl (lv_at hl 3 rfl) ?_
  refine r_go1 (rest := []) (v := .int (gi (qThr 3 res))) hH rfl (r_runX (As := [.ref (w.1 + 1), .int (gi (sx xs i 1)), .ref (w.1 + 864)]) hM hH csM_145 (wL_whyStuck hl9 (sx_r xs i 1) e1 he) rfl hl.1 rfl (Nat.le_of_ble_eq_true rfl) ⟨Nat.le_of_ble_eq_true rfl, Nat.le_of_ble_eq_true rfl⟩ ⟨by show cells + 1 ≤ 601024; omega, by show slots + 6 ≤ 7293034; omega⟩ dL_law_866) (fun hz0 H locs hH => ?_)
  refine lv_istore (lv' := [(5, .int (gi (qThr 3 res))), (0, .ref b), (1, .ref (w.1 + 1)), (2, .ref (w.1 + 855)), (3, .ref (w.1 + 864)), (4, .int (gi (i : Int)))]) hM.fx.1 hM.fx.2.1 dL_law_869 hl (by decide) rfl (fun ls hl => ?_)
  refine lv_aload_n hM.fx.1 hM.fx.2.1 dL_law_871 rfl (lv_at hl 3 rfl) ?_
  refine l_arg (k := 1) hM hS hi (by decide) (lv_at hl 1 rfl) (lv_at hl 5 rfl) dL_law_872 dL_law_873 dL_law_875 dL_law_876 dL_law_877 hH ?_
  refine r_go1 (rest := []) (v := .int (gi (qWert res))) hH rfl (r_runVD (As := [.int (gi (sx xs i 1))]) (b := 855) (t := 9) hM hH cvM_147 (mX9_whyStuck gLC_main hl9 (g := gsh) (by decide +kernel) (sx_r xs i 1) e2) ⟨by decide, by decide, by decide +kernel⟩ (by decide) rfl rfl rfl hl.1 rfl (Nat.le_of_ble_eq_true rfl) ⟨Nat.le_of_ble_eq_true rfl, Nat.le_of_ble_eq_true rfl⟩ ⟨by show cells + 1 + 0 ≤ 601024; omega, by show slots + 6 + 0 ≤ 7293034; omega⟩ dL_law_878) (fun hz1 H locs hH => ?_)
  refine l_tail (M := M2) (q := 881) hM hl9 hH (res := res) v7 (fun z h => by rw [v8]; subst h; exact gup_hit rfl rfl) hz1 hl (kk := ?_) cvM_107 (by show cells + 1 + 0 ≤ 601024; omega) (by show slots + 6 + 0 ≤ 7293034; omega) dL_law_881 dL_law_883 dL_law_884 dL_law_887 dL_law_889 dL_law_894 dL_law_896 dL_law_899 dL_law_900 dL_law_901 dL_law_902 dL_law_904 dL_law_905 dL_law_906 dL_law_911 (by decide)
  intro H locs ls hH hl
  exact W.widen (by show cells + 1 + 0 ≤ cells + 10; omega) (by show slots + 6 + 0 ≤ slots + 100; omega) (kk H locs ls M2 _ hH hR2 (by omega) hl)
theorem gm_672 : Cond.methodLink RL 148 yX8_stuck ∈ gG := gG_in 672 (by decide +kernel) (by decide +kernel)
theorem gm_673 : Cond.instanceMethod yX8_stuck ∈ gG := gG_in 673 (by decide +kernel) (by decide +kernel)
theorem gm_674 : Cond.selects yX8_stuck.cls yX8_stuck yX8_stuck ∈ gG := gG_in 674 (by decide +kernel) (by decide +kernel)
theorem gm_675 : Cond.code yX8_stuck cX8_stuck 1 (some .int) ∈ gG := gG_in 675 (by decide +kernel) (by decide +kernel)
theorem cvM_148 : gCV RL 148 yX8_stuck cX8_stuck 1 (some .int) 0 := ⟨gm_672, gm_673, gm_674, gm_92, gm_675, by decide +kernel⟩
theorem gm_1547 : Cond.methodLink RL 151 yX9_stuck ∈ gG := gG_in 1547 (by decide +kernel) (by decide +kernel)
theorem gm_1548 : Cond.instanceMethod yX9_stuck ∈ gG := gG_in 1548 (by decide +kernel) (by decide +kernel)
theorem gm_1549 : Cond.selects yX9_stuck.cls yX9_stuck yX9_stuck ∈ gG := gG_in 1549 (by decide +kernel) (by decide +kernel)
theorem gm_1550 : Cond.code yX9_stuck cX9_stuck 3 (some .int) ∈ gG := gG_in 1550 (by decide +kernel) (by decide +kernel)
theorem cvM_151 : gCV RL 151 yX9_stuck cX9_stuck 3 (some .int) 0 := ⟨gm_1547, gm_1548, gm_1549, gm_100, gm_1550, by decide +kernel⟩
set_option maxHeartbeats 4000000 in
set_option maxRecDepth 100000 in
theorem lc_12 {w : gW} {p : Program} {l : Launch} {e : Env} {s : State} {m : MethodId} {below : List Frame} {meth : Method} {c : Code} {b L : Nat} {xs : Nat → Int32} {Q : State → Prop} (hM : gMD w p l s m [Value.ref b].toArray c cL_law 9 RL) (hl9 : l.stackTraces = false) (hS : gSc w s b L xs) {i : Nat} (hi : i + 6 ≤ L) {M : gMem} {K : Int} (hR : REL M K) (hK : K + 12000 ≤ 70000000) {H : Heap} {locs : List Loc} {cells slots : Nat} {ls : Array Slot} (hH : gH w gN gRm M s H locs) (hc : cells + 10 ≤ 601024 ∧ slots + 100 ≤ 7293034) (hl : lv_has ls 9 [(0, .ref b), (1, .ref (w.1 + 1)), (2, .ref (w.1 + 855)), (3, .ref (w.1 + 864)), (4, .int (gi (i : Int)))])
    (kk : ∀ H locs ls M K', gH w gN gRm M s H locs → REL M K' → K' ≤ K + 12000 → lv_has ls 9 [(0, .ref b), (1, .ref (w.1 + 1)), (2, .ref (w.1 + 855)), (3, .ref (w.1 + 864)), (4, .int (gi (i : Int)))] → W p l e room_1 s m [Value.ref b].toArray below meth c H locs (cells + 10) (slots + 100) Q (F0 m 1972 ls [])) :
    W p l e room_1 s m [Value.ref b].toArray below meth c H locs cells slots Q (F0 m 914 ls []) := by
  obtain ⟨v, M2, e1, e2, hR2⟩ := k_stuck hR
  refine lv_aload_n hM.fx.1 hM.fx.2.1 dL_law_914 rfl (lv_at hl 1 rfl) ?_
  refine r_go1 (rest := []) (v := .int (gi v)) hH rfl (r_runVD (As := []) (b := 1) (t := 8) hM hH cvM_148 (mX8_stuck gLC_main hl9 (g := gsh) (by decide +kernel) e1) ⟨by decide, by decide, by decide +kernel⟩ (by decide) rfl rfl rfl hl.1 rfl (Nat.le_of_ble_eq_true rfl) ⟨Nat.le_of_ble_eq_true rfl, Nat.le_of_ble_eq_true rfl⟩ ⟨by show cells + 0 ≤ 601024; omega, by show slots + 0 ≤ 7293034; omega⟩ dL_law_915) (fun hv0 H locs hH => ?_)
  refine lv_aload_n hM.fx.1 hM.fx.2.1 dL_law_918 rfl (lv_at hl 2 rfl) ?_
  refine r_go1 (rest := [.int (gi v)]) (v := .int (gi v)) hH rfl (r_runVD (As := []) (b := 855) (t := 9) hM hH cvM_151 (mX9_stuck gLC_main hl9 (g := gsh) (by decide +kernel) e2) ⟨by decide, by decide, by decide +kernel⟩ (by decide) rfl rfl rfl hl.1 rfl (Nat.le_of_ble_eq_true rfl) ⟨Nat.le_of_ble_eq_true rfl, Nat.le_of_ble_eq_true rfl⟩ ⟨by show cells + 0 + 0 ≤ 601024; omega, by show slots + 0 + 0 ≤ 7293034; omega⟩ dL_law_919) (fun hv1 H locs hH => ?_)
  refine r_icmp_eq (tgt := 1972) hM.fx hv0 hv1 dL_law_922 (by decide) (fun _ => ?_) (fun h => absurd rfl h)
  exact W.widen (by show cells + 0 + 0 ≤ cells + 10; omega) (by show slots + 0 + 0 ≤ slots + 100; omega) (kk H locs ls M2 _ hH hR2 (by omega) hl)
theorem gm_1062 : Cond.methodLink RL 152 yL_helpers ∈ gG := gG_in 1062 (by decide +kernel) (by decide +kernel)
theorem gm_1063 : Cond.static yL_helpers ∈ gG := gG_in 1063 (by decide +kernel) (by decide +kernel)
theorem csM_152 : gCW RL 152 yL_helpers cL_helpers 4 [(0, 9, 12, 25)] 3 := ⟨gm_1062, gm_1063, gm_91, gl_1064, by decide +kernel⟩
theorem gm_1551 : Cond.methodLink RL 154 yX9_helpers ∈ gG := gG_in 1551 (by decide +kernel) (by decide +kernel)
theorem gm_1552 : Cond.instanceMethod yX9_helpers ∈ gG := gG_in 1552 (by decide +kernel) (by decide +kernel)
theorem gm_1553 : Cond.selects yX9_helpers.cls yX9_helpers yX9_helpers ∈ gG := gG_in 1553 (by decide +kernel) (by decide +kernel)
theorem gm_1554 : Cond.code yX9_helpers cX9_helpers 6 (some .int) ∈ gG := gG_in 1554 (by decide +kernel) (by decide +kernel)
theorem cvM_154 : gCV RL 154 yX9_helpers cX9_helpers 6 (some .int) 1 := ⟨gm_1551, gm_1552, gm_1553, gm_100, gm_1554, by decide +kernel⟩
set_option maxHeartbeats 4000000 in
set_option maxRecDepth 100000 in
theorem lc_13 {w : gW} {p : Program} {l : Launch} {e : Env} {s : State} {m : MethodId} {below : List Frame} {meth : Method} {c : Code} {b L : Nat} {xs : Nat → Int32} {Q : State → Prop} (hM : gMD w p l s m [Value.ref b].toArray c cL_law 9 RL) (hl9 : l.stackTraces = false) (hS : gSc w s b L xs) {i : Nat} (hi : i + 6 ≤ L) {M : gMem} {K : Int} (hR : REL M K) (hK : K + 12000 ≤ 70000000) {H : Heap} {locs : List Loc} {cells slots : Nat} {ls : Array Slot} (hH : gH w gN gRm M s H locs) (hc : cells + 10 ≤ 601024 ∧ slots + 100 ≤ 7293034) (hl : lv_has ls 9 [(0, .ref b), (1, .ref (w.1 + 1)), (2, .ref (w.1 + 855)), (3, .ref (w.1 + 864)), (4, .int (gi (i : Int)))])
    (kk : ∀ H locs ls M K', gH w gN gRm M s H locs → REL M K' → K' ≤ K + 12000 → lv_has ls 9 [(0, .ref b), (1, .ref (w.1 + 1)), (2, .ref (w.1 + 855)), (3, .ref (w.1 + 864)), (4, .int (gi (i : Int)))] → W p l e room_1 s m [Value.ref b].toArray below meth c H locs (cells + 10) (slots + 100) Q (F0 m 1972 ls [])) :
    W p l e room_1 s m [Value.ref b].toArray below meth c H locs cells slots Q (F0 m 927 ls []) := by
  obtain ⟨res, e1, he, hz⟩ := z_helpers (y1 := sx xs i 1) hR
  obtain ⟨M2, e2, v7, v8, hR2⟩ := hz (gWm res M) (gWm_out res M)
  refine lv_aload_n hM.fx.1 hM.fx.2.1 dL_law_927 rfl (lv_at hl 1 rfl) ?_
  refine l_arg (k := 1) hM hS hi (by decide) (lv_at hl 0 rfl) (lv_at hl 4 rfl) dL_law_928 dL_law_929 dL_law_931 dL_law_932 dL_law_933 hH ?_
  refine lv_aload_n hM.fx.1 hM.fx.2.1 dL_law_934 rfl (lv_at hl 3 rfl) ?_
  refine r_go1 (rest := []) (v := .int (gi (qThr 3 res))) hH rfl (r_runX (As := [.ref (w.1 + 1), .int (gi (sx xs i 1)), .ref (w.1 + 864)]) hM hH csM_152 (wL_helpers hl9 (sx_r xs i 1) e1 he) rfl hl.1 rfl (Nat.le_of_ble_eq_true rfl) ⟨Nat.le_of_ble_eq_true rfl, Nat.le_of_ble_eq_true rfl⟩ ⟨by show cells + 1 ≤ 601024; omega, by show slots + 6 ≤ 7293034; omega⟩ dL_law_935) (fun hz0 H locs hH => ?_)
  refine lv_istore (lv' := [(5, .int (gi (qThr 3 res))), (0, .ref b), (1, .ref (w.1 + 1)), (2, .ref (w.1 + 855)), (3, .ref (w.1 + 864)), (4, .int (gi (i : Int)))]) hM.fx.1 hM.fx.2.1 dL_law_938 hl (by decide) rfl (fun ls hl => ?_)
  refine lv_aload_n hM.fx.1 hM.fx.2.1 dL_law_940 rfl (lv_at hl 3 rfl) ?_
  refine l_arg (k := 1) hM hS hi (by decide) (lv_at hl 1 rfl) (lv_at hl 5 rfl) dL_law_941 dL_law_942 dL_law_944 dL_law_945 dL_law_946 hH ?_
  refine r_go1 (rest := []) (v := .int (gi (qWert res))) hH rfl (r_runVD (As := [.int (gi (sx xs i 1))]) (b := 855) (t := 9) hM hH cvM_154 (mX9_helpers gLC_main hl9 (g := gsh) (by decide +kernel) (sx_r xs i 1) e2) ⟨by decide, by decide, by decide +kernel⟩ (by decide) rfl rfl rfl hl.1 rfl (Nat.le_of_ble_eq_true rfl) ⟨Nat.le_of_ble_eq_true rfl, Nat.le_of_ble_eq_true rfl⟩ ⟨by show cells + 1 + 0 ≤ 601024; omega, by show slots + 6 + 0 ≤ 7293034; omega⟩ dL_law_947) (fun hz1 H locs hH => ?_)
  refine l_tail (M := M2) (q := 950) hM hl9 hH (res := res) v7 (fun z h => by rw [v8]; subst h; exact gup_hit rfl rfl) hz1 hl (kk := ?_) cvM_107 (by show cells + 1 + 0 ≤ 601024; omega) (by show slots + 6 + 0 ≤ 7293034; omega) dL_law_950 dL_law_952 dL_law_953 dL_law_956 dL_law_958 dL_law_963 dL_law_965 dL_law_968 dL_law_969 dL_law_970 dL_law_971 dL_law_973 dL_law_974 dL_law_975 dL_law_980 (by decide)
  intro H locs ls hH hl
  exact W.widen (by show cells + 1 + 0 ≤ cells + 10; omega) (by show slots + 6 + 0 ≤ slots + 100; omega) (kk H locs ls M2 _ hH hR2 (by omega) hl)
theorem gm_697 : Cond.methodLink RL 155 yX8_unfair ∈ gG := gG_in 697 (by decide +kernel) (by decide +kernel)
theorem gm_698 : Cond.instanceMethod yX8_unfair ∈ gG := gG_in 698 (by decide +kernel) (by decide +kernel)
theorem gm_699 : Cond.selects yX8_unfair.cls yX8_unfair yX8_unfair ∈ gG := gG_in 699 (by decide +kernel) (by decide +kernel)
theorem gm_700 : Cond.code yX8_unfair cX8_unfair 1 (some .int) ∈ gG := gG_in 700 (by decide +kernel) (by decide +kernel)
theorem cvM_155 : gCV RL 155 yX8_unfair cX8_unfair 1 (some .int) 0 := ⟨gm_697, gm_698, gm_699, gm_92, gm_700, by decide +kernel⟩
theorem gm_1559 : Cond.methodLink RL 158 yX9_unfair ∈ gG := gG_in 1559 (by decide +kernel) (by decide +kernel)
theorem gm_1560 : Cond.instanceMethod yX9_unfair ∈ gG := gG_in 1560 (by decide +kernel) (by decide +kernel)
theorem gm_1561 : Cond.selects yX9_unfair.cls yX9_unfair yX9_unfair ∈ gG := gG_in 1561 (by decide +kernel) (by decide +kernel)
theorem gm_1562 : Cond.code yX9_unfair cX9_unfair 1 (some .int) ∈ gG := gG_in 1562 (by decide +kernel) (by decide +kernel)
theorem cvM_158 : gCV RL 158 yX9_unfair cX9_unfair 1 (some .int) 0 := ⟨gm_1559, gm_1560, gm_1561, gm_100, gm_1562, by decide +kernel⟩
set_option maxHeartbeats 4000000 in
set_option maxRecDepth 100000 in
theorem lc_14 {w : gW} {p : Program} {l : Launch} {e : Env} {s : State} {m : MethodId} {below : List Frame} {meth : Method} {c : Code} {b L : Nat} {xs : Nat → Int32} {Q : State → Prop} (hM : gMD w p l s m [Value.ref b].toArray c cL_law 9 RL) (hl9 : l.stackTraces = false) (hS : gSc w s b L xs) {i : Nat} (hi : i + 6 ≤ L) {M : gMem} {K : Int} (hR : REL M K) (hK : K + 12000 ≤ 70000000) {H : Heap} {locs : List Loc} {cells slots : Nat} {ls : Array Slot} (hH : gH w gN gRm M s H locs) (hc : cells + 10 ≤ 601024 ∧ slots + 100 ≤ 7293034) (hl : lv_has ls 9 [(0, .ref b), (1, .ref (w.1 + 1)), (2, .ref (w.1 + 855)), (3, .ref (w.1 + 864)), (4, .int (gi (i : Int)))])
    (kk : ∀ H locs ls M K', gH w gN gRm M s H locs → REL M K' → K' ≤ K + 12000 → lv_has ls 9 [(0, .ref b), (1, .ref (w.1 + 1)), (2, .ref (w.1 + 855)), (3, .ref (w.1 + 864)), (4, .int (gi (i : Int)))] → W p l e room_1 s m [Value.ref b].toArray below meth c H locs (cells + 10) (slots + 100) Q (F0 m 1972 ls [])) :
    W p l e room_1 s m [Value.ref b].toArray below meth c H locs cells slots Q (F0 m 983 ls []) := by
  obtain ⟨v, M2, e1, e2, hR2⟩ := k_unfair hR
  refine lv_aload_n hM.fx.1 hM.fx.2.1 dL_law_983 rfl (lv_at hl 1 rfl) ?_
  refine r_go1 (rest := []) (v := .int (gi v)) hH rfl (r_runVD (As := []) (b := 1) (t := 8) hM hH cvM_155 (mX8_unfair gLC_main hl9 (g := gsh) (by decide +kernel) e1) ⟨by decide, by decide, by decide +kernel⟩ (by decide) rfl rfl rfl hl.1 rfl (Nat.le_of_ble_eq_true rfl) ⟨Nat.le_of_ble_eq_true rfl, Nat.le_of_ble_eq_true rfl⟩ ⟨by show cells + 0 ≤ 601024; omega, by show slots + 0 ≤ 7293034; omega⟩ dL_law_984) (fun hv0 H locs hH => ?_)
  refine lv_aload_n hM.fx.1 hM.fx.2.1 dL_law_987 rfl (lv_at hl 2 rfl) ?_
  refine r_go1 (rest := [.int (gi v)]) (v := .int (gi v)) hH rfl (r_runVD (As := []) (b := 855) (t := 9) hM hH cvM_158 (mX9_unfair gLC_main hl9 (g := gsh) (by decide +kernel) e2) ⟨by decide, by decide, by decide +kernel⟩ (by decide) rfl rfl rfl hl.1 rfl (Nat.le_of_ble_eq_true rfl) ⟨Nat.le_of_ble_eq_true rfl, Nat.le_of_ble_eq_true rfl⟩ ⟨by show cells + 0 + 0 ≤ 601024; omega, by show slots + 0 + 0 ≤ 7293034; omega⟩ dL_law_988) (fun hv1 H locs hH => ?_)
  refine r_icmp_eq (tgt := 1972) hM.fx hv0 hv1 dL_law_991 (by decide) (fun _ => ?_) (fun h => absurd rfl h)
  exact W.widen (by show cells + 0 + 0 ≤ cells + 10; omega) (by show slots + 0 + 0 ≤ slots + 100; omega) (kk H locs ls M2 _ hH hR2 (by omega) hl)
theorem gm_709 : Cond.methodLink RL 159 yX8_hungriest ∈ gG := gG_in 709 (by decide +kernel) (by decide +kernel)
theorem gm_710 : Cond.instanceMethod yX8_hungriest ∈ gG := gG_in 710 (by decide +kernel) (by decide +kernel)
theorem gm_711 : Cond.selects yX8_hungriest.cls yX8_hungriest yX8_hungriest ∈ gG := gG_in 711 (by decide +kernel) (by decide +kernel)
theorem gm_712 : Cond.code yX8_hungriest cX8_hungriest 5 (some .int) ∈ gG := gG_in 712 (by decide +kernel) (by decide +kernel)
theorem cvM_159 : gCV RL 159 yX8_hungriest cX8_hungriest 5 (some .int) 0 := ⟨gm_709, gm_710, gm_711, gm_92, gm_712, by decide +kernel⟩
theorem gm_1568 : Cond.methodLink RL 162 yX9_hungriest ∈ gG := gG_in 1568 (by decide +kernel) (by decide +kernel)
theorem gm_1569 : Cond.instanceMethod yX9_hungriest ∈ gG := gG_in 1569 (by decide +kernel) (by decide +kernel)
theorem gm_1570 : Cond.selects yX9_hungriest.cls yX9_hungriest yX9_hungriest ∈ gG := gG_in 1570 (by decide +kernel) (by decide +kernel)
theorem gm_1571 : Cond.code yX9_hungriest cX9_hungriest 3 (some .int) ∈ gG := gG_in 1571 (by decide +kernel) (by decide +kernel)
theorem cvM_162 : gCV RL 162 yX9_hungriest cX9_hungriest 3 (some .int) 0 := ⟨gm_1568, gm_1569, gm_1570, gm_100, gm_1571, by decide +kernel⟩
set_option maxHeartbeats 4000000 in
set_option maxRecDepth 100000 in
theorem lc_15 {w : gW} {p : Program} {l : Launch} {e : Env} {s : State} {m : MethodId} {below : List Frame} {meth : Method} {c : Code} {b L : Nat} {xs : Nat → Int32} {Q : State → Prop} (hM : gMD w p l s m [Value.ref b].toArray c cL_law 9 RL) (hl9 : l.stackTraces = false) (hS : gSc w s b L xs) {i : Nat} (hi : i + 6 ≤ L) {M : gMem} {K : Int} (hR : REL M K) (hK : K + 12000 ≤ 70000000) {H : Heap} {locs : List Loc} {cells slots : Nat} {ls : Array Slot} (hH : gH w gN gRm M s H locs) (hc : cells + 10 ≤ 601024 ∧ slots + 100 ≤ 7293034) (hl : lv_has ls 9 [(0, .ref b), (1, .ref (w.1 + 1)), (2, .ref (w.1 + 855)), (3, .ref (w.1 + 864)), (4, .int (gi (i : Int)))])
    (kk : ∀ H locs ls M K', gH w gN gRm M s H locs → REL M K' → K' ≤ K + 12000 → lv_has ls 9 [(0, .ref b), (1, .ref (w.1 + 1)), (2, .ref (w.1 + 855)), (3, .ref (w.1 + 864)), (4, .int (gi (i : Int)))] → W p l e room_1 s m [Value.ref b].toArray below meth c H locs (cells + 10) (slots + 100) Q (F0 m 1972 ls [])) :
    W p l e room_1 s m [Value.ref b].toArray below meth c H locs cells slots Q (F0 m 996 ls []) := by
  obtain ⟨v, M2, e1, e2, hR2⟩ := k_hungriest hR
  refine lv_aload_n hM.fx.1 hM.fx.2.1 dL_law_996 rfl (lv_at hl 1 rfl) ?_
  refine r_go1 (rest := []) (v := .int (gi v)) hH rfl (r_runVD (As := []) (b := 1) (t := 8) hM hH cvM_159 (mX8_hungriest gLC_main hl9 (g := gsh) (by decide +kernel) e1) ⟨by decide, by decide, by decide +kernel⟩ (by decide) rfl rfl rfl hl.1 rfl (Nat.le_of_ble_eq_true rfl) ⟨Nat.le_of_ble_eq_true rfl, Nat.le_of_ble_eq_true rfl⟩ ⟨by show cells + 0 ≤ 601024; omega, by show slots + 0 ≤ 7293034; omega⟩ dL_law_997) (fun hv0 H locs hH => ?_)
  refine lv_aload_n hM.fx.1 hM.fx.2.1 dL_law_1000 rfl (lv_at hl 2 rfl) ?_
  refine r_go1 (rest := [.int (gi v)]) (v := .int (gi v)) hH rfl (r_runVD (As := []) (b := 855) (t := 9) hM hH cvM_162 (mX9_hungriest gLC_main hl9 (g := gsh) (by decide +kernel) e2) ⟨by decide, by decide, by decide +kernel⟩ (by decide) rfl rfl rfl hl.1 rfl (Nat.le_of_ble_eq_true rfl) ⟨Nat.le_of_ble_eq_true rfl, Nat.le_of_ble_eq_true rfl⟩ ⟨by show cells + 0 + 0 ≤ 601024; omega, by show slots + 0 + 0 ≤ 7293034; omega⟩ dL_law_1001) (fun hv1 H locs hH => ?_)
  refine r_icmp_eq (tgt := 1972) hM.fx hv0 hv1 dL_law_1004 (by decide) (fun _ => ?_) (fun h => absurd rfl h)
  exact W.widen (by show cells + 0 + 0 ≤ cells + 10; omega) (by show slots + 0 + 0 ≤ slots + 100; omega) (kk H locs ls M2 _ hH hR2 (by omega) hl)
theorem gm_734 : Cond.methodLink RL 173 yX8_turnsLeft ∈ gG := gG_in 734 (by decide +kernel) (by decide +kernel)
theorem gm_735 : Cond.instanceMethod yX8_turnsLeft ∈ gG := gG_in 735 (by decide +kernel) (by decide +kernel)
theorem gm_736 : Cond.selects yX8_turnsLeft.cls yX8_turnsLeft yX8_turnsLeft ∈ gG := gG_in 736 (by decide +kernel) (by decide +kernel)
theorem gm_737 : Cond.code yX8_turnsLeft cX8_turnsLeft 2 (some .int) ∈ gG := gG_in 737 (by decide +kernel) (by decide +kernel)
theorem cvM_173 : gCV RL 173 yX8_turnsLeft cX8_turnsLeft 2 (some .int) 0 := ⟨gm_734, gm_735, gm_736, gm_92, gm_737, by decide +kernel⟩
theorem gm_1580 : Cond.methodLink RL 176 yX9_turnsLeft ∈ gG := gG_in 1580 (by decide +kernel) (by decide +kernel)
theorem gm_1581 : Cond.instanceMethod yX9_turnsLeft ∈ gG := gG_in 1581 (by decide +kernel) (by decide +kernel)
theorem gm_1582 : Cond.selects yX9_turnsLeft.cls yX9_turnsLeft yX9_turnsLeft ∈ gG := gG_in 1582 (by decide +kernel) (by decide +kernel)
theorem gm_1583 : Cond.code yX9_turnsLeft cX9_turnsLeft 3 (some .int) ∈ gG := gG_in 1583 (by decide +kernel) (by decide +kernel)
theorem cvM_176 : gCV RL 176 yX9_turnsLeft cX9_turnsLeft 3 (some .int) 0 := ⟨gm_1580, gm_1581, gm_1582, gm_100, gm_1583, by decide +kernel⟩
set_option maxHeartbeats 4000000 in
set_option maxRecDepth 100000 in
theorem lc_18 {w : gW} {p : Program} {l : Launch} {e : Env} {s : State} {m : MethodId} {below : List Frame} {meth : Method} {c : Code} {b L : Nat} {xs : Nat → Int32} {Q : State → Prop} (hM : gMD w p l s m [Value.ref b].toArray c cL_law 9 RL) (hl9 : l.stackTraces = false) (hS : gSc w s b L xs) {i : Nat} (hi : i + 6 ≤ L) {M : gMem} {K : Int} (hR : REL M K) (hK : K + 12000 ≤ 70000000) {H : Heap} {locs : List Loc} {cells slots : Nat} {ls : Array Slot} (hH : gH w gN gRm M s H locs) (hc : cells + 10 ≤ 601024 ∧ slots + 100 ≤ 7293034) (hl : lv_has ls 9 [(0, .ref b), (1, .ref (w.1 + 1)), (2, .ref (w.1 + 855)), (3, .ref (w.1 + 864)), (4, .int (gi (i : Int)))])
    (kk : ∀ H locs ls M K', gH w gN gRm M s H locs → REL M K' → K' ≤ K + 12000 → lv_has ls 9 [(0, .ref b), (1, .ref (w.1 + 1)), (2, .ref (w.1 + 855)), (3, .ref (w.1 + 864)), (4, .int (gi (i : Int)))] → W p l e room_1 s m [Value.ref b].toArray below meth c H locs (cells + 10) (slots + 100) Q (F0 m 1972 ls [])) :
    W p l e room_1 s m [Value.ref b].toArray below meth c H locs cells slots Q (F0 m 1093 ls []) := by
  obtain ⟨v, M1, M2, e1, e2, hR2⟩ := k_turnsLeft hR
  refine lv_aload_n hM.fx.1 hM.fx.2.1 dL_law_1093 rfl (lv_at hl 1 rfl) ?_
  refine r_go1 (rest := []) (v := .int (gi v)) hH rfl (r_runVD (As := []) (b := 1) (t := 8) hM hH cvM_173 (mX8_turnsLeft gLC_main hl9 (g := gsh) (by decide +kernel) e1) ⟨by decide, by decide, by decide +kernel⟩ (by decide) rfl rfl rfl hl.1 rfl (Nat.le_of_ble_eq_true rfl) ⟨Nat.le_of_ble_eq_true rfl, Nat.le_of_ble_eq_true rfl⟩ ⟨by show cells + 0 ≤ 601024; omega, by show slots + 0 ≤ 7293034; omega⟩ dL_law_1094) (fun hv0 H locs hH => ?_)
  refine lv_aload_n hM.fx.1 hM.fx.2.1 dL_law_1097 rfl (lv_at hl 2 rfl) ?_
  refine r_go1 (rest := [.int (gi v)]) (v := .int (gi v)) hH rfl (r_runVD (As := []) (b := 855) (t := 9) hM hH cvM_176 (mX9_turnsLeft gLC_main hl9 (g := gsh) (by decide +kernel) e2) ⟨by decide, by decide, by decide +kernel⟩ (by decide) rfl rfl rfl hl.1 rfl (Nat.le_of_ble_eq_true rfl) ⟨Nat.le_of_ble_eq_true rfl, Nat.le_of_ble_eq_true rfl⟩ ⟨by show cells + 0 + 0 ≤ 601024; omega, by show slots + 0 + 0 ≤ 7293034; omega⟩ dL_law_1098) (fun hv1 H locs hH => ?_)
  refine r_icmp_eq (tgt := 1972) hM.fx hv0 hv1 dL_law_1101 (by decide) (fun _ => ?_) (fun h => absurd rfl h)
  exact W.widen (by show cells + 0 + 0 ≤ cells + 10; omega) (by show slots + 0 + 0 ≤ slots + 100; omega) (kk H locs ls M2 _ hH hR2 (by omega) hl)
theorem gm_1076 : Cond.methodLink RL 177 yL_wouldSay ∈ gG := gG_in 1076 (by decide +kernel) (by decide +kernel)
theorem gm_1077 : Cond.static yL_wouldSay ∈ gG := gG_in 1077 (by decide +kernel) (by decide +kernel)
theorem csM_177 : gCW RL 177 yL_wouldSay cL_wouldSay 5 [(0, 10, 13, 25), (0, 10, 17, 19)] 4 := ⟨gm_1076, gm_1077, gm_91, gl_1078, by decide +kernel⟩
theorem gm_1652 : Cond.methodLink RL 179 yX9_wouldSay ∈ gG := gG_in 1652 (by decide +kernel) (by decide +kernel)
theorem gm_1653 : Cond.instanceMethod yX9_wouldSay ∈ gG := gG_in 1653 (by decide +kernel) (by decide +kernel)
theorem gm_1654 : Cond.selects yX9_wouldSay.cls yX9_wouldSay yX9_wouldSay ∈ gG := gG_in 1654 (by decide +kernel) (by decide +kernel)
theorem gm_1655 : Cond.code yX9_wouldSay cX9_wouldSay 4 (some .int) ∈ gG := gG_in 1655 (by decide +kernel) (by decide +kernel)
theorem cvM_179 : gCV RL 179 yX9_wouldSay cX9_wouldSay 4 (some .int) 2 := ⟨gm_1652, gm_1653, gm_1654, gm_100, gm_1655, by decide +kernel⟩
set_option maxHeartbeats 4000000 in
set_option maxRecDepth 100000 in
theorem lc_19 {w : gW} {p : Program} {l : Launch} {e : Env} {s : State} {m : MethodId} {below : List Frame} {meth : Method} {c : Code} {b L : Nat} {xs : Nat → Int32} {Q : State → Prop} (hM : gMD w p l s m [Value.ref b].toArray c cL_law 9 RL) (hl9 : l.stackTraces = false) (hS : gSc w s b L xs) {i : Nat} (hi : i + 6 ≤ L) {M : gMem} {K : Int} (hR : REL M K) (hK : K + 12000 ≤ 70000000) {H : Heap} {locs : List Loc} {cells slots : Nat} {ls : Array Slot} (hH : gH w gN gRm M s H locs) (hc : cells + 10 ≤ 601024 ∧ slots + 100 ≤ 7293034) (hl : lv_has ls 9 [(0, .ref b), (1, .ref (w.1 + 1)), (2, .ref (w.1 + 855)), (3, .ref (w.1 + 864)), (4, .int (gi (i : Int)))])
    (kk : ∀ H locs ls M K', gH w gN gRm M s H locs → REL M K' → K' ≤ K + 12000 → lv_has ls 9 [(0, .ref b), (1, .ref (w.1 + 1)), (2, .ref (w.1 + 855)), (3, .ref (w.1 + 864)), (4, .int (gi (i : Int)))] → W p l e room_1 s m [Value.ref b].toArray below meth c H locs (cells + 10) (slots + 100) Q (F0 m 1972 ls [])) :
    W p l e room_1 s m [Value.ref b].toArray below meth c H locs cells slots Q (F0 m 1106 ls []) := by
  obtain ⟨res, M1, e1, he, hz⟩ := z_wouldSay (y1 := sx xs i 1) (y2 := sx xs i 2) hR
  obtain ⟨M2, e2, v7, v8, hR2⟩ := hz (gWm res M1) (gWm_out res M1)
  refine lv_aload_n hM.fx.1 hM.fx.2.1 dL_law_1106 rfl (lv_at hl 1 rfl) ?_
  refine l_arg (k := 1) hM hS hi (by decide) (lv_at hl 0 rfl) (lv_at hl 4 rfl) dL_law_1107 dL_law_1108 dL_law_1110 dL_law_1111 dL_law_1112 hH ?_
  refine l_arg (k := 2) hM hS hi (by decide) (lv_at hl 0 rfl) (lv_at hl 4 rfl) dL_law_1113 dL_law_1114 dL_law_1116 dL_law_1117 dL_law_1118 hH ?_
  refine lv_aload_n hM.fx.1 hM.fx.2.1 dL_law_1119 rfl (lv_at hl 3 rfl) ?_
  refine r_go1 (rest := []) (v := .int (gi (qThr 3 res))) hH rfl (r_runX (As := [.ref (w.1 + 1), .int (gi (sx xs i 1)), .int (gi (sx xs i 2)), .ref (w.1 + 864)]) hM hH csM_177 (wL_wouldSay hl9 (sx_r xs i 1) (sx_r xs i 2) e1 he) rfl hl.1 rfl (Nat.le_of_ble_eq_true rfl) ⟨Nat.le_of_ble_eq_true rfl, Nat.le_of_ble_eq_true rfl⟩ ⟨by show cells + 2 ≤ 601024; omega, by show slots + 12 ≤ 7293034; omega⟩ dL_law_1120) (fun hz0 H locs hH => ?_)
  refine lv_istore (lv' := [(5, .int (gi (qThr 3 res))), (0, .ref b), (1, .ref (w.1 + 1)), (2, .ref (w.1 + 855)), (3, .ref (w.1 + 864)), (4, .int (gi (i : Int)))]) hM.fx.1 hM.fx.2.1 dL_law_1123 hl (by decide) rfl (fun ls hl => ?_)
  refine lv_aload_n hM.fx.1 hM.fx.2.1 dL_law_1125 rfl (lv_at hl 3 rfl) ?_
  refine l_arg (k := 1) hM hS hi (by decide) (lv_at hl 1 rfl) (lv_at hl 5 rfl) dL_law_1126 dL_law_1127 dL_law_1129 dL_law_1130 dL_law_1131 hH ?_
  refine l_arg (k := 2) hM hS hi (by decide) (lv_at hl 1 rfl) (lv_at hl 5 rfl) dL_law_1132 dL_law_1133 dL_law_1135 dL_law_1136 dL_law_1137 hH ?_
  refine r_go1 (rest := []) (v := .int (gi (qWert res))) hH rfl (r_runVD (As := [.int (gi (sx xs i 1)), .int (gi (sx xs i 2))]) (b := 855) (t := 9) hM hH cvM_179 (mX9_wouldSay gLC_main hl9 (g := gsh) (by decide +kernel) (sx_r xs i 1) (sx_r xs i 2) e2) ⟨by decide, by decide, by decide +kernel⟩ (by decide) rfl rfl rfl hl.1 rfl (Nat.le_of_ble_eq_true rfl) ⟨Nat.le_of_ble_eq_true rfl, Nat.le_of_ble_eq_true rfl⟩ ⟨by show cells + 2 + 0 ≤ 601024; omega, by show slots + 12 + 0 ≤ 7293034; omega⟩ dL_law_1138) (fun hz1 H locs hH => ?_)
  refine l_tail (M := M2) (q := 1141) hM hl9 hH (res := res) v7 (fun z h => by rw [v8]; subst h; exact gup_hit rfl rfl) hz1 hl (kk := ?_) cvM_107 (by show cells + 2 + 0 ≤ 601024; omega) (by show slots + 12 + 0 ≤ 7293034; omega) dL_law_1141 dL_law_1143 dL_law_1144 dL_law_1147 dL_law_1149 dL_law_1154 dL_law_1156 dL_law_1159 dL_law_1160 dL_law_1161 dL_law_1162 dL_law_1164 dL_law_1165 dL_law_1166 dL_law_1171 (by decide)
  intro H locs ls hH hl
  exact W.widen (by show cells + 2 + 0 ≤ cells + 10; omega) (by show slots + 12 + 0 ≤ slots + 100; omega) (kk H locs ls M2 _ hH hR2 (by omega) hl)
theorem gm_1085 : Cond.methodLink RL 180 yL_wouldFail ∈ gG := gG_in 1085 (by decide +kernel) (by decide +kernel)
theorem gm_1086 : Cond.static yL_wouldFail ∈ gG := gG_in 1086 (by decide +kernel) (by decide +kernel)
theorem csM_180 : gCW RL 180 yL_wouldFail cL_wouldFail 4 [(0, 9, 12, 25)] 3 := ⟨gm_1085, gm_1086, gm_91, gl_1087, by decide +kernel⟩
theorem gm_1656 : Cond.methodLink RL 182 yX9_wouldFail ∈ gG := gG_in 1656 (by decide +kernel) (by decide +kernel)
theorem gm_1657 : Cond.instanceMethod yX9_wouldFail ∈ gG := gG_in 1657 (by decide +kernel) (by decide +kernel)
theorem gm_1658 : Cond.selects yX9_wouldFail.cls yX9_wouldFail yX9_wouldFail ∈ gG := gG_in 1658 (by decide +kernel) (by decide +kernel)
theorem gm_1659 : Cond.code yX9_wouldFail cX9_wouldFail 3 (some .int) ∈ gG := gG_in 1659 (by decide +kernel) (by decide +kernel)
theorem cvM_182 : gCV RL 182 yX9_wouldFail cX9_wouldFail 3 (some .int) 1 := ⟨gm_1656, gm_1657, gm_1658, gm_100, gm_1659, by decide +kernel⟩
set_option maxHeartbeats 4000000 in
set_option maxRecDepth 100000 in
theorem lc_20 {w : gW} {p : Program} {l : Launch} {e : Env} {s : State} {m : MethodId} {below : List Frame} {meth : Method} {c : Code} {b L : Nat} {xs : Nat → Int32} {Q : State → Prop} (hM : gMD w p l s m [Value.ref b].toArray c cL_law 9 RL) (hl9 : l.stackTraces = false) (hS : gSc w s b L xs) {i : Nat} (hi : i + 6 ≤ L) {M : gMem} {K : Int} (hR : REL M K) (hK : K + 12000 ≤ 70000000) {H : Heap} {locs : List Loc} {cells slots : Nat} {ls : Array Slot} (hH : gH w gN gRm M s H locs) (hc : cells + 10 ≤ 601024 ∧ slots + 100 ≤ 7293034) (hl : lv_has ls 9 [(0, .ref b), (1, .ref (w.1 + 1)), (2, .ref (w.1 + 855)), (3, .ref (w.1 + 864)), (4, .int (gi (i : Int)))])
    (kk : ∀ H locs ls M K', gH w gN gRm M s H locs → REL M K' → K' ≤ K + 12000 → lv_has ls 9 [(0, .ref b), (1, .ref (w.1 + 1)), (2, .ref (w.1 + 855)), (3, .ref (w.1 + 864)), (4, .int (gi (i : Int)))] → W p l e room_1 s m [Value.ref b].toArray below meth c H locs (cells + 10) (slots + 100) Q (F0 m 1972 ls [])) :
    W p l e room_1 s m [Value.ref b].toArray below meth c H locs cells slots Q (F0 m 1174 ls []) := by
  obtain ⟨res, M1, e1, he, hz⟩ := z_wouldFail (y1 := sx xs i 1) hR
  obtain ⟨M2, e2, v7, v8, hR2⟩ := hz (gWm res M1) (gWm_out res M1)
  refine lv_aload_n hM.fx.1 hM.fx.2.1 dL_law_1174 rfl (lv_at hl 1 rfl) ?_
  refine l_arg (k := 1) hM hS hi (by decide) (lv_at hl 0 rfl) (lv_at hl 4 rfl) dL_law_1175 dL_law_1176 dL_law_1178 dL_law_1179 dL_law_1180 hH ?_
  refine lv_aload_n hM.fx.1 hM.fx.2.1 dL_law_1181 rfl (lv_at hl 3 rfl) ?_
  refine r_go1 (rest := []) (v := .int (gi (qThr 3 res))) hH rfl (r_runX (As := [.ref (w.1 + 1), .int (gi (sx xs i 1)), .ref (w.1 + 864)]) hM hH csM_180 (wL_wouldFail hl9 (sx_r xs i 1) e1 he) rfl hl.1 rfl (Nat.le_of_ble_eq_true rfl) ⟨Nat.le_of_ble_eq_true rfl, Nat.le_of_ble_eq_true rfl⟩ ⟨by show cells + 1 ≤ 601024; omega, by show slots + 6 ≤ 7293034; omega⟩ dL_law_1182) (fun hz0 H locs hH => ?_)
  refine lv_istore (lv' := [(5, .int (gi (qThr 3 res))), (0, .ref b), (1, .ref (w.1 + 1)), (2, .ref (w.1 + 855)), (3, .ref (w.1 + 864)), (4, .int (gi (i : Int)))]) hM.fx.1 hM.fx.2.1 dL_law_1185 hl (by decide) rfl (fun ls hl => ?_)
  refine lv_aload_n hM.fx.1 hM.fx.2.1 dL_law_1187 rfl (lv_at hl 3 rfl) ?_
  refine l_arg (k := 1) hM hS hi (by decide) (lv_at hl 1 rfl) (lv_at hl 5 rfl) dL_law_1188 dL_law_1189 dL_law_1191 dL_law_1192 dL_law_1193 hH ?_
  refine r_go1 (rest := []) (v := .int (gi (qWert res))) hH rfl (r_runVD (As := [.int (gi (sx xs i 1))]) (b := 855) (t := 9) hM hH cvM_182 (mX9_wouldFail gLC_main hl9 (g := gsh) (by decide +kernel) (sx_r xs i 1) e2) ⟨by decide, by decide, by decide +kernel⟩ (by decide) rfl rfl rfl hl.1 rfl (Nat.le_of_ble_eq_true rfl) ⟨Nat.le_of_ble_eq_true rfl, Nat.le_of_ble_eq_true rfl⟩ ⟨by show cells + 1 + 0 ≤ 601024; omega, by show slots + 6 + 0 ≤ 7293034; omega⟩ dL_law_1194) (fun hz1 H locs hH => ?_)
  refine l_tail (M := M2) (q := 1197) hM hl9 hH (res := res) v7 (fun z h => by rw [v8]; subst h; exact gup_hit rfl rfl) hz1 hl (kk := ?_) cvM_107 (by show cells + 1 + 0 ≤ 601024; omega) (by show slots + 6 + 0 ≤ 7293034; omega) dL_law_1197 dL_law_1199 dL_law_1200 dL_law_1203 dL_law_1205 dL_law_1210 dL_law_1212 dL_law_1215 dL_law_1216 dL_law_1217 dL_law_1218 dL_law_1220 dL_law_1221 dL_law_1222 dL_law_1227 (by decide)
  intro H locs ls hH hl
  exact W.widen (by show cells + 1 + 0 ≤ cells + 10; omega) (by show slots + 6 + 0 ≤ slots + 100; omega) (kk H locs ls M2 _ hH hR2 (by omega) hl)
theorem gm_798 : Cond.methodLink RL 183 yX8_fairest ∈ gG := gG_in 798 (by decide +kernel) (by decide +kernel)
theorem gm_799 : Cond.instanceMethod yX8_fairest ∈ gG := gG_in 799 (by decide +kernel) (by decide +kernel)
theorem gm_800 : Cond.selects yX8_fairest.cls yX8_fairest yX8_fairest ∈ gG := gG_in 800 (by decide +kernel) (by decide +kernel)
theorem gm_801 : Cond.code yX8_fairest cX8_fairest 5 (some .int) ∈ gG := gG_in 801 (by decide +kernel) (by decide +kernel)
theorem cvM_183 : gCV RL 183 yX8_fairest cX8_fairest 5 (some .int) 0 := ⟨gm_798, gm_799, gm_800, gm_92, gm_801, by decide +kernel⟩
theorem gm_1660 : Cond.methodLink RL 186 yX9_fairest ∈ gG := gG_in 1660 (by decide +kernel) (by decide +kernel)
theorem gm_1661 : Cond.instanceMethod yX9_fairest ∈ gG := gG_in 1661 (by decide +kernel) (by decide +kernel)
theorem gm_1662 : Cond.selects yX9_fairest.cls yX9_fairest yX9_fairest ∈ gG := gG_in 1662 (by decide +kernel) (by decide +kernel)
theorem gm_1663 : Cond.code yX9_fairest cX9_fairest 5 (some .int) ∈ gG := gG_in 1663 (by decide +kernel) (by decide +kernel)
theorem cvM_186 : gCV RL 186 yX9_fairest cX9_fairest 5 (some .int) 0 := ⟨gm_1660, gm_1661, gm_1662, gm_100, gm_1663, by decide +kernel⟩
set_option maxHeartbeats 4000000 in
set_option maxRecDepth 100000 in
theorem lc_21 {w : gW} {p : Program} {l : Launch} {e : Env} {s : State} {m : MethodId} {below : List Frame} {meth : Method} {c : Code} {b L : Nat} {xs : Nat → Int32} {Q : State → Prop} (hM : gMD w p l s m [Value.ref b].toArray c cL_law 9 RL) (hl9 : l.stackTraces = false) (hS : gSc w s b L xs) {i : Nat} (hi : i + 6 ≤ L) {M : gMem} {K : Int} (hR : REL M K) (hK : K + 12000 ≤ 70000000) {H : Heap} {locs : List Loc} {cells slots : Nat} {ls : Array Slot} (hH : gH w gN gRm M s H locs) (hc : cells + 10 ≤ 601024 ∧ slots + 100 ≤ 7293034) (hl : lv_has ls 9 [(0, .ref b), (1, .ref (w.1 + 1)), (2, .ref (w.1 + 855)), (3, .ref (w.1 + 864)), (4, .int (gi (i : Int)))])
    (kk : ∀ H locs ls M K', gH w gN gRm M s H locs → REL M K' → K' ≤ K + 12000 → lv_has ls 9 [(0, .ref b), (1, .ref (w.1 + 1)), (2, .ref (w.1 + 855)), (3, .ref (w.1 + 864)), (4, .int (gi (i : Int)))] → W p l e room_1 s m [Value.ref b].toArray below meth c H locs (cells + 10) (slots + 100) Q (F0 m 1972 ls [])) :
    W p l e room_1 s m [Value.ref b].toArray below meth c H locs cells slots Q (F0 m 1230 ls []) := by
  obtain ⟨v, M1, M2, e1, e2, hR2⟩ := k_fairest hR
  refine lv_aload_n hM.fx.1 hM.fx.2.1 dL_law_1230 rfl (lv_at hl 1 rfl) ?_
  refine r_go1 (rest := []) (v := .int (gi v)) hH rfl (r_runVD (As := []) (b := 1) (t := 8) hM hH cvM_183 (mX8_fairest gLC_main hl9 (g := gsh) (by decide +kernel) e1) ⟨by decide, by decide, by decide +kernel⟩ (by decide) rfl rfl rfl hl.1 rfl (Nat.le_of_ble_eq_true rfl) ⟨Nat.le_of_ble_eq_true rfl, Nat.le_of_ble_eq_true rfl⟩ ⟨by show cells + 0 ≤ 601024; omega, by show slots + 0 ≤ 7293034; omega⟩ dL_law_1231) (fun hv0 H locs hH => ?_)
  refine lv_aload_n hM.fx.1 hM.fx.2.1 dL_law_1234 rfl (lv_at hl 2 rfl) ?_
  refine r_go1 (rest := [.int (gi v)]) (v := .int (gi v)) hH rfl (r_runVD (As := []) (b := 855) (t := 9) hM hH cvM_186 (mX9_fairest gLC_main hl9 (g := gsh) (by decide +kernel) e2) ⟨by decide, by decide, by decide +kernel⟩ (by decide) rfl rfl rfl hl.1 rfl (Nat.le_of_ble_eq_true rfl) ⟨Nat.le_of_ble_eq_true rfl, Nat.le_of_ble_eq_true rfl⟩ ⟨by show cells + 0 + 0 ≤ 601024; omega, by show slots + 0 + 0 ≤ 7293034; omega⟩ dL_law_1235) (fun hv1 H locs hH => ?_)
  refine r_icmp_eq (tgt := 1972) hM.fx hv0 hv1 dL_law_1238 (by decide) (fun _ => ?_) (fun h => absurd rfl h)
  exact W.widen (by show cells + 0 + 0 ≤ cells + 10; omega) (by show slots + 0 + 0 ≤ slots + 100; omega) (kk H locs ls M2 _ hH hR2 (by omega) hl)
theorem gm_1092 : Cond.methodLink RL 187 yL_bestSlot ∈ gG := gG_in 1092 (by decide +kernel) (by decide +kernel)
theorem gm_1093 : Cond.static yL_bestSlot ∈ gG := gG_in 1093 (by decide +kernel) (by decide +kernel)
theorem csM_187 : gCW RL 187 yL_bestSlot cL_bestSlot 4 [(0, 9, 12, 25)] 3 := ⟨gm_1092, gm_1093, gm_91, gl_1094, by decide +kernel⟩
theorem gm_1664 : Cond.methodLink RL 189 yX9_bestSlot ∈ gG := gG_in 1664 (by decide +kernel) (by decide +kernel)
theorem gm_1665 : Cond.instanceMethod yX9_bestSlot ∈ gG := gG_in 1665 (by decide +kernel) (by decide +kernel)
theorem gm_1666 : Cond.selects yX9_bestSlot.cls yX9_bestSlot yX9_bestSlot ∈ gG := gG_in 1666 (by decide +kernel) (by decide +kernel)
theorem gm_1667 : Cond.code yX9_bestSlot cX9_bestSlot 6 (some .int) ∈ gG := gG_in 1667 (by decide +kernel) (by decide +kernel)
theorem cvM_189 : gCV RL 189 yX9_bestSlot cX9_bestSlot 6 (some .int) 1 := ⟨gm_1664, gm_1665, gm_1666, gm_100, gm_1667, by decide +kernel⟩
set_option maxHeartbeats 4000000 in
set_option maxRecDepth 100000 in
theorem lc_22 {w : gW} {p : Program} {l : Launch} {e : Env} {s : State} {m : MethodId} {below : List Frame} {meth : Method} {c : Code} {b L : Nat} {xs : Nat → Int32} {Q : State → Prop} (hM : gMD w p l s m [Value.ref b].toArray c cL_law 9 RL) (hl9 : l.stackTraces = false) (hS : gSc w s b L xs) {i : Nat} (hi : i + 6 ≤ L) {M : gMem} {K : Int} (hR : REL M K) (hK : K + 12000 ≤ 70000000) {H : Heap} {locs : List Loc} {cells slots : Nat} {ls : Array Slot} (hH : gH w gN gRm M s H locs) (hc : cells + 10 ≤ 601024 ∧ slots + 100 ≤ 7293034) (hl : lv_has ls 9 [(0, .ref b), (1, .ref (w.1 + 1)), (2, .ref (w.1 + 855)), (3, .ref (w.1 + 864)), (4, .int (gi (i : Int)))])
    (kk : ∀ H locs ls M K', gH w gN gRm M s H locs → REL M K' → K' ≤ K + 12000 → lv_has ls 9 [(0, .ref b), (1, .ref (w.1 + 1)), (2, .ref (w.1 + 855)), (3, .ref (w.1 + 864)), (4, .int (gi (i : Int)))] → W p l e room_1 s m [Value.ref b].toArray below meth c H locs (cells + 10) (slots + 100) Q (F0 m 1972 ls [])) :
    W p l e room_1 s m [Value.ref b].toArray below meth c H locs cells slots Q (F0 m 1243 ls []) := by
  obtain ⟨res, M1, e1, he, hz⟩ := z_bestSlot (y1 := sx xs i 1) hR
  obtain ⟨M2, e2, v7, v8, hR2⟩ := hz (gWm res M1) (gWm_out res M1)
  refine lv_aload_n hM.fx.1 hM.fx.2.1 dL_law_1243 rfl (lv_at hl 1 rfl) ?_
  refine l_arg (k := 1) hM hS hi (by decide) (lv_at hl 0 rfl) (lv_at hl 4 rfl) dL_law_1244 dL_law_1245 dL_law_1247 dL_law_1248 dL_law_1249 hH ?_
  refine lv_aload_n hM.fx.1 hM.fx.2.1 dL_law_1250 rfl (lv_at hl 3 rfl) ?_
  refine r_go1 (rest := []) (v := .int (gi (qThr 3 res))) hH rfl (r_runX (As := [.ref (w.1 + 1), .int (gi (sx xs i 1)), .ref (w.1 + 864)]) hM hH csM_187 (wL_bestSlot hl9 (sx_r xs i 1) e1 he) rfl hl.1 rfl (Nat.le_of_ble_eq_true rfl) ⟨Nat.le_of_ble_eq_true rfl, Nat.le_of_ble_eq_true rfl⟩ ⟨by show cells + 1 ≤ 601024; omega, by show slots + 6 ≤ 7293034; omega⟩ dL_law_1251) (fun hz0 H locs hH => ?_)
  refine lv_istore (lv' := [(5, .int (gi (qThr 3 res))), (0, .ref b), (1, .ref (w.1 + 1)), (2, .ref (w.1 + 855)), (3, .ref (w.1 + 864)), (4, .int (gi (i : Int)))]) hM.fx.1 hM.fx.2.1 dL_law_1254 hl (by decide) rfl (fun ls hl => ?_)
  refine lv_aload_n hM.fx.1 hM.fx.2.1 dL_law_1256 rfl (lv_at hl 3 rfl) ?_
  refine l_arg (k := 1) hM hS hi (by decide) (lv_at hl 1 rfl) (lv_at hl 5 rfl) dL_law_1257 dL_law_1258 dL_law_1260 dL_law_1261 dL_law_1262 hH ?_
  refine r_go1 (rest := []) (v := .int (gi (qWert res))) hH rfl (r_runVD (As := [.int (gi (sx xs i 1))]) (b := 855) (t := 9) hM hH cvM_189 (mX9_bestSlot gLC_main hl9 (g := gsh) (by decide +kernel) (sx_r xs i 1) e2) ⟨by decide, by decide, by decide +kernel⟩ (by decide) rfl rfl rfl hl.1 rfl (Nat.le_of_ble_eq_true rfl) ⟨Nat.le_of_ble_eq_true rfl, Nat.le_of_ble_eq_true rfl⟩ ⟨by show cells + 1 + 0 ≤ 601024; omega, by show slots + 6 + 0 ≤ 7293034; omega⟩ dL_law_1263) (fun hz1 H locs hH => ?_)
  refine l_tail (M := M2) (q := 1266) hM hl9 hH (res := res) v7 (fun z h => by rw [v8]; subst h; exact gup_hit rfl rfl) hz1 hl (kk := ?_) cvM_107 (by show cells + 1 + 0 ≤ 601024; omega) (by show slots + 6 + 0 ≤ 7293034; omega) dL_law_1266 dL_law_1268 dL_law_1269 dL_law_1272 dL_law_1274 dL_law_1279 dL_law_1281 dL_law_1284 dL_law_1285 dL_law_1286 dL_law_1287 dL_law_1289 dL_law_1290 dL_law_1291 dL_law_1296 (by decide)
  intro H locs ls hH hl
  exact W.widen (by show cells + 1 + 0 ≤ cells + 10; omega) (by show slots + 6 + 0 ≤ slots + 100; omega) (kk H locs ls M2 _ hH hR2 (by omega) hl)
theorem gm_1103 : Cond.methodLink RL 190 yL_run ∈ gG := gG_in 1103 (by decide +kernel) (by decide +kernel)
theorem gm_1104 : Cond.static yL_run ∈ gG := gG_in 1104 (by decide +kernel) (by decide +kernel)
theorem csM_190 : gCW RL 190 yL_run cL_run 4 [(0, 9, 12, 19)] 3 := ⟨gm_1103, gm_1104, gm_91, gl_1105, by decide +kernel⟩
theorem gm_1672 : Cond.methodLink RL 192 yX9_run ∈ gG := gG_in 1672 (by decide +kernel) (by decide +kernel)
theorem gm_1673 : Cond.instanceMethod yX9_run ∈ gG := gG_in 1673 (by decide +kernel) (by decide +kernel)
theorem gm_1674 : Cond.selects yX9_run.cls yX9_run yX9_run ∈ gG := gG_in 1674 (by decide +kernel) (by decide +kernel)
theorem gm_1675 : Cond.code yX9_run cX9_run 2 (some .int) ∈ gG := gG_in 1675 (by decide +kernel) (by decide +kernel)
theorem cvM_192 : gCV RL 192 yX9_run cX9_run 2 (some .int) 1 := ⟨gm_1672, gm_1673, gm_1674, gm_100, gm_1675, by decide +kernel⟩
set_option maxHeartbeats 4000000 in
set_option maxRecDepth 100000 in
theorem lc_23 {w : gW} {p : Program} {l : Launch} {e : Env} {s : State} {m : MethodId} {below : List Frame} {meth : Method} {c : Code} {b L : Nat} {xs : Nat → Int32} {Q : State → Prop} (hM : gMD w p l s m [Value.ref b].toArray c cL_law 9 RL) (hl9 : l.stackTraces = false) (hS : gSc w s b L xs) {i : Nat} (hi : i + 6 ≤ L) {M : gMem} {K : Int} (hR : REL M K) (hK : K + 12000 ≤ 70000000) {H : Heap} {locs : List Loc} {cells slots : Nat} {ls : Array Slot} (hH : gH w gN gRm M s H locs) (hc : cells + 10 ≤ 601024 ∧ slots + 100 ≤ 7293034) (hl : lv_has ls 9 [(0, .ref b), (1, .ref (w.1 + 1)), (2, .ref (w.1 + 855)), (3, .ref (w.1 + 864)), (4, .int (gi (i : Int)))])
    (kk : ∀ H locs ls M K', gH w gN gRm M s H locs → REL M K' → K' ≤ K + 12000 → lv_has ls 9 [(0, .ref b), (1, .ref (w.1 + 1)), (2, .ref (w.1 + 855)), (3, .ref (w.1 + 864)), (4, .int (gi (i : Int)))] → W p l e room_1 s m [Value.ref b].toArray below meth c H locs (cells + 10) (slots + 100) Q (F0 m 1972 ls [])) :
    W p l e room_1 s m [Value.ref b].toArray below meth c H locs cells slots Q (F0 m 1299 ls []) := by
  obtain ⟨res, M1, e1, he, hz⟩ := z_run (y1 := sx xs i 1) hR hK
  obtain ⟨M2, e2, v7, v8, hR2⟩ := hz (gWm res M1) (gWm_out res M1)
  refine lv_aload_n hM.fx.1 hM.fx.2.1 dL_law_1299 rfl (lv_at hl 1 rfl) ?_
  refine l_arg (k := 1) hM hS hi (by decide) (lv_at hl 0 rfl) (lv_at hl 4 rfl) dL_law_1300 dL_law_1301 dL_law_1303 dL_law_1304 dL_law_1305 hH ?_
  refine lv_aload_n hM.fx.1 hM.fx.2.1 dL_law_1306 rfl (lv_at hl 3 rfl) ?_
  refine r_go1 (rest := []) (v := .int (gi (qThr 2 res))) hH rfl (r_runX (As := [.ref (w.1 + 1), .int (gi (sx xs i 1)), .ref (w.1 + 864)]) hM hH csM_190 (wL_run hl9 (sx_r xs i 1) e1 he) rfl hl.1 rfl (Nat.le_of_ble_eq_true rfl) ⟨Nat.le_of_ble_eq_true rfl, Nat.le_of_ble_eq_true rfl⟩ ⟨by show cells + 1 ≤ 601024; omega, by show slots + 6 ≤ 7293034; omega⟩ dL_law_1307) (fun hz0 H locs hH => ?_)
  refine lv_istore (lv' := [(5, .int (gi (qThr 2 res))), (0, .ref b), (1, .ref (w.1 + 1)), (2, .ref (w.1 + 855)), (3, .ref (w.1 + 864)), (4, .int (gi (i : Int)))]) hM.fx.1 hM.fx.2.1 dL_law_1310 hl (by decide) rfl (fun ls hl => ?_)
  refine lv_aload_n hM.fx.1 hM.fx.2.1 dL_law_1312 rfl (lv_at hl 3 rfl) ?_
  refine l_arg (k := 1) hM hS hi (by decide) (lv_at hl 1 rfl) (lv_at hl 5 rfl) dL_law_1313 dL_law_1314 dL_law_1316 dL_law_1317 dL_law_1318 hH ?_
  refine r_go1 (rest := []) (v := .int (gi (qWert res))) hH rfl (r_runVD (As := [.int (gi (sx xs i 1))]) (b := 855) (t := 9) hM hH cvM_192 (mX9_run gLC_main hl9 (g := gsh) (by decide +kernel) (sx_r xs i 1) e2) ⟨by decide, by decide, by decide +kernel⟩ (by decide) rfl rfl rfl hl.1 rfl (Nat.le_of_ble_eq_true rfl) ⟨Nat.le_of_ble_eq_true rfl, Nat.le_of_ble_eq_true rfl⟩ ⟨by show cells + 1 + 0 ≤ 601024; omega, by show slots + 6 + 0 ≤ 7293034; omega⟩ dL_law_1319) (fun hz1 H locs hH => ?_)
  refine l_tail (M := M2) (q := 1322) hM hl9 hH (res := res) v7 (fun z h => by rw [v8]; subst h; exact gup_hit rfl rfl) hz1 hl (kk := ?_) cvM_107 (by show cells + 1 + 0 ≤ 601024; omega) (by show slots + 6 + 0 ≤ 7293034; omega) dL_law_1322 dL_law_1324 dL_law_1325 dL_law_1328 dL_law_1330 dL_law_1335 dL_law_1337 dL_law_1340 dL_law_1341 dL_law_1342 dL_law_1343 dL_law_1345 dL_law_1346 dL_law_1347 dL_law_1352 (by decide)
  intro H locs ls hH hl
  exact W.widen (by show cells + 1 + 0 ≤ cells + 10; omega) (by show slots + 6 + 0 ≤ slots + 100; omega) (kk H locs ls M2 _ hH hR2 (by omega) hl)
theorem gm_1111 : Cond.methodLink RL 193 yL_allow ∈ gG := gG_in 1111 (by decide +kernel) (by decide +kernel)
theorem gm_1112 : Cond.static yL_allow ∈ gG := gG_in 1112 (by decide +kernel) (by decide +kernel)
theorem csM_193 : gCW RL 193 yL_allow cL_allow 6 [(0, 12, 15, 25)] 5 := ⟨gm_1111, gm_1112, gm_91, gl_1113, by decide +kernel⟩
theorem gm_1676 : Cond.methodLink RL 196 yX9_allow ∈ gG := gG_in 1676 (by decide +kernel) (by decide +kernel)
theorem gm_1677 : Cond.instanceMethod yX9_allow ∈ gG := gG_in 1677 (by decide +kernel) (by decide +kernel)
theorem gm_1678 : Cond.selects yX9_allow.cls yX9_allow yX9_allow ∈ gG := gG_in 1678 (by decide +kernel) (by decide +kernel)
theorem gm_1679 : Cond.code yX9_allow cX9_allow 4 (some .int) ∈ gG := gG_in 1679 (by decide +kernel) (by decide +kernel)
theorem cvM_196 : gCV RL 196 yX9_allow cX9_allow 4 (some .int) 3 := ⟨gm_1676, gm_1677, gm_1678, gm_100, gm_1679, by decide +kernel⟩
set_option maxHeartbeats 4000000 in
set_option maxRecDepth 100000 in
theorem lc_24 {w : gW} {p : Program} {l : Launch} {e : Env} {s : State} {m : MethodId} {below : List Frame} {meth : Method} {c : Code} {b L : Nat} {xs : Nat → Int32} {Q : State → Prop} (hM : gMD w p l s m [Value.ref b].toArray c cL_law 9 RL) (hl9 : l.stackTraces = false) (hS : gSc w s b L xs) {i : Nat} (hi : i + 6 ≤ L) {M : gMem} {K : Int} (hR : REL M K) (hK : K + 12000 ≤ 70000000) {H : Heap} {locs : List Loc} {cells slots : Nat} {ls : Array Slot} (hH : gH w gN gRm M s H locs) (hc : cells + 10 ≤ 601024 ∧ slots + 100 ≤ 7293034) (hl : lv_has ls 9 [(0, .ref b), (1, .ref (w.1 + 1)), (2, .ref (w.1 + 855)), (3, .ref (w.1 + 864)), (4, .int (gi (i : Int)))])
    (kk : ∀ H locs ls M K', gH w gN gRm M s H locs → REL M K' → K' ≤ K + 12000 → lv_has ls 9 [(0, .ref b), (1, .ref (w.1 + 1)), (2, .ref (w.1 + 855)), (3, .ref (w.1 + 864)), (4, .int (gi (i : Int)))] → W p l e room_1 s m [Value.ref b].toArray below meth c H locs (cells + 10) (slots + 100) Q (F0 m 1972 ls [])) :
    W p l e room_1 s m [Value.ref b].toArray below meth c H locs cells slots Q (F0 m 1355 ls []) := by
  obtain ⟨res, M1, e1, he, hz⟩ := z_allow (y1 := sx xs i 1) (y2 := sx xs i 2) (y3 := sb xs i 3) hR hK
  obtain ⟨M2, e2, v7, v8, hR2⟩ := hz (gWm res M1) (gWm_out res M1)
  refine lv_aload_n hM.fx.1 hM.fx.2.1 dL_law_1355 rfl (lv_at hl 1 rfl) ?_
  refine l_arg (k := 1) hM hS hi (by decide) (lv_at hl 0 rfl) (lv_at hl 4 rfl) dL_law_1356 dL_law_1357 dL_law_1359 dL_law_1360 dL_law_1361 hH ?_
  refine l_arg (k := 2) hM hS hi (by decide) (lv_at hl 0 rfl) (lv_at hl 4 rfl) dL_law_1362 dL_law_1363 dL_law_1365 dL_law_1366 dL_law_1367 hH ?_
  refine l_arg (k := 3) hM hS hi (by decide) (lv_at hl 0 rfl) (lv_at hl 4 rfl) dL_law_1368 dL_law_1369 dL_law_1371 dL_law_1372 dL_law_1373 hH ?_
  refine l_bool hM dL_law_1374 dL_law_1377 dL_law_1378 dL_law_1381 (sx_r xs i 3) (tgt := 1381) (tg2 := 1382) (by decide) (by decide) ?_
  refine lv_aload_n hM.fx.1 hM.fx.2.1 dL_law_1382 rfl (lv_at hl 3 rfl) ?_
  refine r_go1 (rest := []) (v := .int (gi (qThr 3 res))) hH rfl (r_runX (As := [.ref (w.1 + 1), .int (gi (sx xs i 1)), .int (gi (sx xs i 2)), .int (gi (sb xs i 3)), .ref (w.1 + 864)]) hM hH csM_193 (wL_allow hl9 (sx_r xs i 1) (sx_r xs i 2) (sb_r xs i 3) e1 he) rfl hl.1 rfl (Nat.le_of_ble_eq_true rfl) ⟨Nat.le_of_ble_eq_true rfl, Nat.le_of_ble_eq_true rfl⟩ ⟨by show cells + 2 ≤ 601024; omega, by show slots + 12 ≤ 7293034; omega⟩ dL_law_1383) (fun hz0 H locs hH => ?_)
  refine lv_istore (lv' := [(5, .int (gi (qThr 3 res))), (0, .ref b), (1, .ref (w.1 + 1)), (2, .ref (w.1 + 855)), (3, .ref (w.1 + 864)), (4, .int (gi (i : Int)))]) hM.fx.1 hM.fx.2.1 dL_law_1386 hl (by decide) rfl (fun ls hl => ?_)
  refine lv_aload_n hM.fx.1 hM.fx.2.1 dL_law_1388 rfl (lv_at hl 3 rfl) ?_
  refine l_arg (k := 1) hM hS hi (by decide) (lv_at hl 1 rfl) (lv_at hl 5 rfl) dL_law_1389 dL_law_1390 dL_law_1392 dL_law_1393 dL_law_1394 hH ?_
  refine l_arg (k := 2) hM hS hi (by decide) (lv_at hl 1 rfl) (lv_at hl 5 rfl) dL_law_1395 dL_law_1396 dL_law_1398 dL_law_1399 dL_law_1400 hH ?_
  refine l_arg (k := 3) hM hS hi (by decide) (lv_at hl 1 rfl) (lv_at hl 5 rfl) dL_law_1401 dL_law_1402 dL_law_1404 dL_law_1405 dL_law_1406 hH ?_
  refine l_bool hM dL_law_1407 dL_law_1410 dL_law_1411 dL_law_1414 (sx_r xs i 3) (tgt := 1414) (tg2 := 1415) (by decide) (by decide) ?_
  refine r_go1 (rest := []) (v := .int (gi (qWert res))) hH rfl (r_runVD (As := [.int (gi (sx xs i 1)), .int (gi (sx xs i 2)), .int (gi (sb xs i 3))]) (b := 855) (t := 9) hM hH cvM_196 (mX9_allow gLC_main hl9 (g := gsh) (by decide +kernel) (sx_r xs i 1) (sx_r xs i 2) (sb_r xs i 3) e2) ⟨by decide, by decide, by decide +kernel⟩ (by decide) rfl rfl rfl hl.1 rfl (Nat.le_of_ble_eq_true rfl) ⟨Nat.le_of_ble_eq_true rfl, Nat.le_of_ble_eq_true rfl⟩ ⟨by show cells + 2 + 0 ≤ 601024; omega, by show slots + 12 + 0 ≤ 7293034; omega⟩ dL_law_1415) (fun hz1 H locs hH => ?_)
  refine l_tail (M := M2) (q := 1418) hM hl9 hH (res := res) v7 (fun z h => by rw [v8]; subst h; exact gup_hit rfl rfl) hz1 hl (kk := ?_) cvM_107 (by show cells + 2 + 0 ≤ 601024; omega) (by show slots + 12 + 0 ≤ 7293034; omega) dL_law_1418 dL_law_1420 dL_law_1421 dL_law_1424 dL_law_1426 dL_law_1431 dL_law_1433 dL_law_1436 dL_law_1437 dL_law_1438 dL_law_1439 dL_law_1441 dL_law_1442 dL_law_1443 dL_law_1448 (by decide)
  intro H locs ls hH hl
  exact W.widen (by show cells + 2 + 0 ≤ cells + 10; omega) (by show slots + 12 + 0 ≤ slots + 100; omega) (kk H locs ls M2 _ hH hR2 (by omega) hl)
theorem gm_1118 : Cond.methodLink RL 197 yL_setTurn ∈ gG := gG_in 1118 (by decide +kernel) (by decide +kernel)
theorem gm_1119 : Cond.static yL_setTurn ∈ gG := gG_in 1119 (by decide +kernel) (by decide +kernel)
theorem csM_197 : gCW RL 197 yL_setTurn cL_setTurn 5 [(0, 10, 13, 25), (0, 10, 17, 19)] 4 := ⟨gm_1118, gm_1119, gm_91, gl_1120, by decide +kernel⟩
theorem gm_1680 : Cond.methodLink RL 199 yX9_setTurn ∈ gG := gG_in 1680 (by decide +kernel) (by decide +kernel)
theorem gm_1681 : Cond.instanceMethod yX9_setTurn ∈ gG := gG_in 1681 (by decide +kernel) (by decide +kernel)
theorem gm_1682 : Cond.selects yX9_setTurn.cls yX9_setTurn yX9_setTurn ∈ gG := gG_in 1682 (by decide +kernel) (by decide +kernel)
theorem gm_1683 : Cond.code yX9_setTurn cX9_setTurn 4 (some .int) ∈ gG := gG_in 1683 (by decide +kernel) (by decide +kernel)
theorem cvM_199 : gCV RL 199 yX9_setTurn cX9_setTurn 4 (some .int) 2 := ⟨gm_1680, gm_1681, gm_1682, gm_100, gm_1683, by decide +kernel⟩
set_option maxHeartbeats 4000000 in
set_option maxRecDepth 100000 in
theorem lc_25 {w : gW} {p : Program} {l : Launch} {e : Env} {s : State} {m : MethodId} {below : List Frame} {meth : Method} {c : Code} {b L : Nat} {xs : Nat → Int32} {Q : State → Prop} (hM : gMD w p l s m [Value.ref b].toArray c cL_law 9 RL) (hl9 : l.stackTraces = false) (hS : gSc w s b L xs) {i : Nat} (hi : i + 6 ≤ L) {M : gMem} {K : Int} (hR : REL M K) (hK : K + 12000 ≤ 70000000) {H : Heap} {locs : List Loc} {cells slots : Nat} {ls : Array Slot} (hH : gH w gN gRm M s H locs) (hc : cells + 10 ≤ 601024 ∧ slots + 100 ≤ 7293034) (hl : lv_has ls 9 [(0, .ref b), (1, .ref (w.1 + 1)), (2, .ref (w.1 + 855)), (3, .ref (w.1 + 864)), (4, .int (gi (i : Int)))])
    (kk : ∀ H locs ls M K', gH w gN gRm M s H locs → REL M K' → K' ≤ K + 12000 → lv_has ls 9 [(0, .ref b), (1, .ref (w.1 + 1)), (2, .ref (w.1 + 855)), (3, .ref (w.1 + 864)), (4, .int (gi (i : Int)))] → W p l e room_1 s m [Value.ref b].toArray below meth c H locs (cells + 10) (slots + 100) Q (F0 m 1972 ls [])) :
    W p l e room_1 s m [Value.ref b].toArray below meth c H locs cells slots Q (F0 m 1451 ls []) := by
  obtain ⟨res, M1, e1, he, hz⟩ := z_setTurn (y1 := sx xs i 1) (y2 := sx xs i 2) hR hK
  obtain ⟨M2, e2, v7, v8, hR2⟩ := hz (gWm res M1) (gWm_out res M1)
  refine lv_aload_n hM.fx.1 hM.fx.2.1 dL_law_1451 rfl (lv_at hl 1 rfl) ?_
  refine l_arg (k := 1) hM hS hi (by decide) (lv_at hl 0 rfl) (lv_at hl 4 rfl) dL_law_1452 dL_law_1453 dL_law_1455 dL_law_1456 dL_law_1457 hH ?_
  refine l_arg (k := 2) hM hS hi (by decide) (lv_at hl 0 rfl) (lv_at hl 4 rfl) dL_law_1458 dL_law_1459 dL_law_1461 dL_law_1462 dL_law_1463 hH ?_
  refine lv_aload_n hM.fx.1 hM.fx.2.1 dL_law_1464 rfl (lv_at hl 3 rfl) ?_
  refine r_go1 (rest := []) (v := .int (gi (qThr 3 res))) hH rfl (r_runX (As := [.ref (w.1 + 1), .int (gi (sx xs i 1)), .int (gi (sx xs i 2)), .ref (w.1 + 864)]) hM hH csM_197 (wL_setTurn hl9 (sx_r xs i 1) (sx_r xs i 2) e1 he) rfl hl.1 rfl (Nat.le_of_ble_eq_true rfl) ⟨Nat.le_of_ble_eq_true rfl, Nat.le_of_ble_eq_true rfl⟩ ⟨by show cells + 2 ≤ 601024; omega, by show slots + 12 ≤ 7293034; omega⟩ dL_law_1465) (fun hz0 H locs hH => ?_)
  refine lv_istore (lv' := [(5, .int (gi (qThr 3 res))), (0, .ref b), (1, .ref (w.1 + 1)), (2, .ref (w.1 + 855)), (3, .ref (w.1 + 864)), (4, .int (gi (i : Int)))]) hM.fx.1 hM.fx.2.1 dL_law_1468 hl (by decide) rfl (fun ls hl => ?_)
  refine lv_aload_n hM.fx.1 hM.fx.2.1 dL_law_1470 rfl (lv_at hl 3 rfl) ?_
  refine l_arg (k := 1) hM hS hi (by decide) (lv_at hl 1 rfl) (lv_at hl 5 rfl) dL_law_1471 dL_law_1472 dL_law_1474 dL_law_1475 dL_law_1476 hH ?_
  refine l_arg (k := 2) hM hS hi (by decide) (lv_at hl 1 rfl) (lv_at hl 5 rfl) dL_law_1477 dL_law_1478 dL_law_1480 dL_law_1481 dL_law_1482 hH ?_
  refine r_go1 (rest := []) (v := .int (gi (qWert res))) hH rfl (r_runVD (As := [.int (gi (sx xs i 1)), .int (gi (sx xs i 2))]) (b := 855) (t := 9) hM hH cvM_199 (mX9_setTurn gLC_main hl9 (g := gsh) (by decide +kernel) (sx_r xs i 1) (sx_r xs i 2) e2) ⟨by decide, by decide, by decide +kernel⟩ (by decide) rfl rfl rfl hl.1 rfl (Nat.le_of_ble_eq_true rfl) ⟨Nat.le_of_ble_eq_true rfl, Nat.le_of_ble_eq_true rfl⟩ ⟨by show cells + 2 + 0 ≤ 601024; omega, by show slots + 12 + 0 ≤ 7293034; omega⟩ dL_law_1483) (fun hz1 H locs hH => ?_)
  refine l_tail (M := M2) (q := 1486) hM hl9 hH (res := res) v7 (fun z h => by rw [v8]; subst h; exact gup_hit rfl rfl) hz1 hl (kk := ?_) cvM_107 (by show cells + 2 + 0 ≤ 601024; omega) (by show slots + 12 + 0 ≤ 7293034; omega) dL_law_1486 dL_law_1488 dL_law_1489 dL_law_1492 dL_law_1494 dL_law_1499 dL_law_1501 dL_law_1504 dL_law_1505 dL_law_1506 dL_law_1507 dL_law_1509 dL_law_1510 dL_law_1511 dL_law_1516 (by decide)
  intro H locs ls hH hl
  exact W.widen (by show cells + 2 + 0 ≤ cells + 10; omega) (by show slots + 12 + 0 ≤ slots + 100; omega) (kk H locs ls M2 _ hH hR2 (by omega) hl)
theorem gm_1126 : Cond.methodLink RL 200 yL_put ∈ gG := gG_in 1126 (by decide +kernel) (by decide +kernel)
theorem gm_1127 : Cond.static yL_put ∈ gG := gG_in 1127 (by decide +kernel) (by decide +kernel)
theorem csM_200 : gCW RL 200 yL_put cL_put 5 [(0, 10, 13, 25), (0, 10, 17, 19)] 4 := ⟨gm_1126, gm_1127, gm_91, gl_1128, by decide +kernel⟩
theorem gm_1684 : Cond.methodLink RL 202 yX9_put ∈ gG := gG_in 1684 (by decide +kernel) (by decide +kernel)
theorem gm_1685 : Cond.instanceMethod yX9_put ∈ gG := gG_in 1685 (by decide +kernel) (by decide +kernel)
theorem gm_1686 : Cond.selects yX9_put.cls yX9_put yX9_put ∈ gG := gG_in 1686 (by decide +kernel) (by decide +kernel)
theorem gm_1687 : Cond.code yX9_put cX9_put 3 (some .int) ∈ gG := gG_in 1687 (by decide +kernel) (by decide +kernel)
theorem cvM_202 : gCV RL 202 yX9_put cX9_put 3 (some .int) 2 := ⟨gm_1684, gm_1685, gm_1686, gm_100, gm_1687, by decide +kernel⟩
set_option maxHeartbeats 4000000 in
set_option maxRecDepth 100000 in
theorem lc_26 {w : gW} {p : Program} {l : Launch} {e : Env} {s : State} {m : MethodId} {below : List Frame} {meth : Method} {c : Code} {b L : Nat} {xs : Nat → Int32} {Q : State → Prop} (hM : gMD w p l s m [Value.ref b].toArray c cL_law 9 RL) (hl9 : l.stackTraces = false) (hS : gSc w s b L xs) {i : Nat} (hi : i + 6 ≤ L) {M : gMem} {K : Int} (hR : REL M K) (hK : K + 12000 ≤ 70000000) {H : Heap} {locs : List Loc} {cells slots : Nat} {ls : Array Slot} (hH : gH w gN gRm M s H locs) (hc : cells + 10 ≤ 601024 ∧ slots + 100 ≤ 7293034) (hl : lv_has ls 9 [(0, .ref b), (1, .ref (w.1 + 1)), (2, .ref (w.1 + 855)), (3, .ref (w.1 + 864)), (4, .int (gi (i : Int)))])
    (kk : ∀ H locs ls M K', gH w gN gRm M s H locs → REL M K' → K' ≤ K + 12000 → lv_has ls 9 [(0, .ref b), (1, .ref (w.1 + 1)), (2, .ref (w.1 + 855)), (3, .ref (w.1 + 864)), (4, .int (gi (i : Int)))] → W p l e room_1 s m [Value.ref b].toArray below meth c H locs (cells + 10) (slots + 100) Q (F0 m 1972 ls [])) :
    W p l e room_1 s m [Value.ref b].toArray below meth c H locs cells slots Q (F0 m 1519 ls []) := by
  obtain ⟨res, M1, e1, he, hz⟩ := z_put (y1 := sx xs i 1) (y2 := sx xs i 2) hR hK
  obtain ⟨M2, e2, v7, v8, hR2⟩ := hz (gWm res M1) (gWm_out res M1)
  refine lv_aload_n hM.fx.1 hM.fx.2.1 dL_law_1519 rfl (lv_at hl 1 rfl) ?_
  refine l_arg (k := 1) hM hS hi (by decide) (lv_at hl 0 rfl) (lv_at hl 4 rfl) dL_law_1520 dL_law_1521 dL_law_1523 dL_law_1524 dL_law_1525 hH ?_
  refine l_arg (k := 2) hM hS hi (by decide) (lv_at hl 0 rfl) (lv_at hl 4 rfl) dL_law_1526 dL_law_1527 dL_law_1529 dL_law_1530 dL_law_1531 hH ?_
  refine lv_aload_n hM.fx.1 hM.fx.2.1 dL_law_1532 rfl (lv_at hl 3 rfl) ?_
  refine r_go1 (rest := []) (v := .int (gi (qThr 3 res))) hH rfl (r_runX (As := [.ref (w.1 + 1), .int (gi (sx xs i 1)), .int (gi (sx xs i 2)), .ref (w.1 + 864)]) hM hH csM_200 (wL_put hl9 (sx_r xs i 1) (sx_r xs i 2) e1 he) rfl hl.1 rfl (Nat.le_of_ble_eq_true rfl) ⟨Nat.le_of_ble_eq_true rfl, Nat.le_of_ble_eq_true rfl⟩ ⟨by show cells + 2 ≤ 601024; omega, by show slots + 12 ≤ 7293034; omega⟩ dL_law_1533) (fun hz0 H locs hH => ?_)
  refine lv_istore (lv' := [(5, .int (gi (qThr 3 res))), (0, .ref b), (1, .ref (w.1 + 1)), (2, .ref (w.1 + 855)), (3, .ref (w.1 + 864)), (4, .int (gi (i : Int)))]) hM.fx.1 hM.fx.2.1 dL_law_1536 hl (by decide) rfl (fun ls hl => ?_)
  refine lv_aload_n hM.fx.1 hM.fx.2.1 dL_law_1538 rfl (lv_at hl 3 rfl) ?_
  refine l_arg (k := 1) hM hS hi (by decide) (lv_at hl 1 rfl) (lv_at hl 5 rfl) dL_law_1539 dL_law_1540 dL_law_1542 dL_law_1543 dL_law_1544 hH ?_
  refine l_arg (k := 2) hM hS hi (by decide) (lv_at hl 1 rfl) (lv_at hl 5 rfl) dL_law_1545 dL_law_1546 dL_law_1548 dL_law_1549 dL_law_1550 hH ?_
  refine r_go1 (rest := []) (v := .int (gi (qWert res))) hH rfl (r_runVD (As := [.int (gi (sx xs i 1)), .int (gi (sx xs i 2))]) (b := 855) (t := 9) hM hH cvM_202 (mX9_put gLC_main hl9 (g := gsh) (by decide +kernel) (sx_r xs i 1) (sx_r xs i 2) e2) ⟨by decide, by decide, by decide +kernel⟩ (by decide) rfl rfl rfl hl.1 rfl (Nat.le_of_ble_eq_true rfl) ⟨Nat.le_of_ble_eq_true rfl, Nat.le_of_ble_eq_true rfl⟩ ⟨by show cells + 2 + 0 ≤ 601024; omega, by show slots + 12 + 0 ≤ 7293034; omega⟩ dL_law_1551) (fun hz1 H locs hH => ?_)
  refine l_tail (M := M2) (q := 1554) hM hl9 hH (res := res) v7 (fun z h => by rw [v8]; subst h; exact gup_hit rfl rfl) hz1 hl (kk := ?_) cvM_107 (by show cells + 2 + 0 ≤ 601024; omega) (by show slots + 12 + 0 ≤ 7293034; omega) dL_law_1554 dL_law_1556 dL_law_1557 dL_law_1560 dL_law_1562 dL_law_1567 dL_law_1569 dL_law_1572 dL_law_1573 dL_law_1574 dL_law_1575 dL_law_1577 dL_law_1578 dL_law_1579 dL_law_1584 (by decide)
  intro H locs ls hH hl
  exact W.widen (by show cells + 2 + 0 ≤ cells + 10; omega) (by show slots + 12 + 0 ≤ slots + 100; omega) (kk H locs ls M2 _ hH hR2 (by omega) hl)
theorem gm_1138 : Cond.methodLink RL 203 yL_hand ∈ gG := gG_in 1138 (by decide +kernel) (by decide +kernel)
theorem gm_1139 : Cond.static yL_hand ∈ gG := gG_in 1139 (by decide +kernel) (by decide +kernel)
theorem csM_203 : gCW RL 203 yL_hand cL_hand 5 [(0, 10, 13, 25)] 4 := ⟨gm_1138, gm_1139, gm_91, gl_1140, by decide +kernel⟩
theorem gm_1689 : Cond.methodLink RL 205 yX9_hand ∈ gG := gG_in 1689 (by decide +kernel) (by decide +kernel)
theorem gm_1690 : Cond.instanceMethod yX9_hand ∈ gG := gG_in 1690 (by decide +kernel) (by decide +kernel)
theorem gm_1691 : Cond.selects yX9_hand.cls yX9_hand yX9_hand ∈ gG := gG_in 1691 (by decide +kernel) (by decide +kernel)
theorem gm_1692 : Cond.code yX9_hand cX9_hand 4 (some .int) ∈ gG := gG_in 1692 (by decide +kernel) (by decide +kernel)
theorem cvM_205 : gCV RL 205 yX9_hand cX9_hand 4 (some .int) 2 := ⟨gm_1689, gm_1690, gm_1691, gm_100, gm_1692, by decide +kernel⟩
set_option maxHeartbeats 4000000 in
set_option maxRecDepth 100000 in
theorem lc_27 {w : gW} {p : Program} {l : Launch} {e : Env} {s : State} {m : MethodId} {below : List Frame} {meth : Method} {c : Code} {b L : Nat} {xs : Nat → Int32} {Q : State → Prop} (hM : gMD w p l s m [Value.ref b].toArray c cL_law 9 RL) (hl9 : l.stackTraces = false) (hS : gSc w s b L xs) {i : Nat} (hi : i + 6 ≤ L) {M : gMem} {K : Int} (hR : REL M K) (hK : K + 12000 ≤ 70000000) {H : Heap} {locs : List Loc} {cells slots : Nat} {ls : Array Slot} (hH : gH w gN gRm M s H locs) (hc : cells + 10 ≤ 601024 ∧ slots + 100 ≤ 7293034) (hl : lv_has ls 9 [(0, .ref b), (1, .ref (w.1 + 1)), (2, .ref (w.1 + 855)), (3, .ref (w.1 + 864)), (4, .int (gi (i : Int)))])
    (kk : ∀ H locs ls M K', gH w gN gRm M s H locs → REL M K' → K' ≤ K + 12000 → lv_has ls 9 [(0, .ref b), (1, .ref (w.1 + 1)), (2, .ref (w.1 + 855)), (3, .ref (w.1 + 864)), (4, .int (gi (i : Int)))] → W p l e room_1 s m [Value.ref b].toArray below meth c H locs (cells + 10) (slots + 100) Q (F0 m 1972 ls [])) :
    W p l e room_1 s m [Value.ref b].toArray below meth c H locs cells slots Q (F0 m 1587 ls []) := by
  obtain ⟨res, M1, e1, he, hz⟩ := z_hand (y1 := sx xs i 1) (y2 := sx xs i 2) hR hK
  obtain ⟨M2, e2, v7, v8, hR2⟩ := hz (gWm res M1) (gWm_out res M1)
  refine lv_aload_n hM.fx.1 hM.fx.2.1 dL_law_1587 rfl (lv_at hl 1 rfl) ?_
  refine l_arg (k := 1) hM hS hi (by decide) (lv_at hl 0 rfl) (lv_at hl 4 rfl) dL_law_1588 dL_law_1589 dL_law_1591 dL_law_1592 dL_law_1593 hH ?_
  refine l_arg (k := 2) hM hS hi (by decide) (lv_at hl 0 rfl) (lv_at hl 4 rfl) dL_law_1594 dL_law_1595 dL_law_1597 dL_law_1598 dL_law_1599 hH ?_
  refine lv_aload_n hM.fx.1 hM.fx.2.1 dL_law_1600 rfl (lv_at hl 3 rfl) ?_
  refine r_go1 (rest := []) (v := .int (gi (qThr 3 res))) hH rfl (r_runX (As := [.ref (w.1 + 1), .int (gi (sx xs i 1)), .int (gi (sx xs i 2)), .ref (w.1 + 864)]) hM hH csM_203 (wL_hand hl9 (sx_r xs i 1) (sx_r xs i 2) e1 he) rfl hl.1 rfl (Nat.le_of_ble_eq_true rfl) ⟨Nat.le_of_ble_eq_true rfl, Nat.le_of_ble_eq_true rfl⟩ ⟨by show cells + 2 ≤ 601024; omega, by show slots + 12 ≤ 7293034; omega⟩ dL_law_1601) (fun hz0 H locs hH => ?_)
  refine lv_istore (lv' := [(5, .int (gi (qThr 3 res))), (0, .ref b), (1, .ref (w.1 + 1)), (2, .ref (w.1 + 855)), (3, .ref (w.1 + 864)), (4, .int (gi (i : Int)))]) hM.fx.1 hM.fx.2.1 dL_law_1604 hl (by decide) rfl (fun ls hl => ?_)
  refine lv_aload_n hM.fx.1 hM.fx.2.1 dL_law_1606 rfl (lv_at hl 3 rfl) ?_
  refine l_arg (k := 1) hM hS hi (by decide) (lv_at hl 1 rfl) (lv_at hl 5 rfl) dL_law_1607 dL_law_1608 dL_law_1610 dL_law_1611 dL_law_1612 hH ?_
  refine l_arg (k := 2) hM hS hi (by decide) (lv_at hl 1 rfl) (lv_at hl 5 rfl) dL_law_1613 dL_law_1614 dL_law_1616 dL_law_1617 dL_law_1618 hH ?_
  refine r_go1 (rest := []) (v := .int (gi (qWert res))) hH rfl (r_runVD (As := [.int (gi (sx xs i 1)), .int (gi (sx xs i 2))]) (b := 855) (t := 9) hM hH cvM_205 (mX9_hand gLC_main hl9 (g := gsh) (by decide +kernel) (sx_r xs i 1) (sx_r xs i 2) e2) ⟨by decide, by decide, by decide +kernel⟩ (by decide) rfl rfl rfl hl.1 rfl (Nat.le_of_ble_eq_true rfl) ⟨Nat.le_of_ble_eq_true rfl, Nat.le_of_ble_eq_true rfl⟩ ⟨by show cells + 2 + 0 ≤ 601024; omega, by show slots + 12 + 0 ≤ 7293034; omega⟩ dL_law_1619) (fun hz1 H locs hH => ?_)
  refine l_tail (M := M2) (q := 1622) hM hl9 hH (res := res) v7 (fun z h => by rw [v8]; subst h; exact gup_hit rfl rfl) hz1 hl (kk := ?_) cvM_107 (by show cells + 2 + 0 ≤ 601024; omega) (by show slots + 12 + 0 ≤ 7293034; omega) dL_law_1622 dL_law_1624 dL_law_1625 dL_law_1628 dL_law_1630 dL_law_1635 dL_law_1637 dL_law_1640 dL_law_1641 dL_law_1642 dL_law_1643 dL_law_1645 dL_law_1646 dL_law_1647 dL_law_1652 (by decide)
  intro H locs ls hH hl
  exact W.widen (by show cells + 2 + 0 ≤ cells + 10; omega) (by show slots + 12 + 0 ≤ slots + 100; omega) (kk H locs ls M2 _ hH hR2 (by omega) hl)
theorem gm_1147 : Cond.methodLink RL 206 yL_kill ∈ gG := gG_in 1147 (by decide +kernel) (by decide +kernel)
theorem gm_1148 : Cond.static yL_kill ∈ gG := gG_in 1148 (by decide +kernel) (by decide +kernel)
theorem csM_206 : gCW RL 206 yL_kill cL_kill 4 [(0, 9, 12, 25)] 3 := ⟨gm_1147, gm_1148, gm_91, gl_1149, by decide +kernel⟩
theorem gm_1693 : Cond.methodLink RL 208 yX9_kill ∈ gG := gG_in 1693 (by decide +kernel) (by decide +kernel)
theorem gm_1694 : Cond.instanceMethod yX9_kill ∈ gG := gG_in 1694 (by decide +kernel) (by decide +kernel)
theorem gm_1695 : Cond.selects yX9_kill.cls yX9_kill yX9_kill ∈ gG := gG_in 1695 (by decide +kernel) (by decide +kernel)
theorem gm_1696 : Cond.code yX9_kill cX9_kill 4 (some .int) ∈ gG := gG_in 1696 (by decide +kernel) (by decide +kernel)
theorem cvM_208 : gCV RL 208 yX9_kill cX9_kill 4 (some .int) 1 := ⟨gm_1693, gm_1694, gm_1695, gm_100, gm_1696, by decide +kernel⟩
set_option maxHeartbeats 4000000 in
set_option maxRecDepth 100000 in
theorem lc_28 {w : gW} {p : Program} {l : Launch} {e : Env} {s : State} {m : MethodId} {below : List Frame} {meth : Method} {c : Code} {b L : Nat} {xs : Nat → Int32} {Q : State → Prop} (hM : gMD w p l s m [Value.ref b].toArray c cL_law 9 RL) (hl9 : l.stackTraces = false) (hS : gSc w s b L xs) {i : Nat} (hi : i + 6 ≤ L) {M : gMem} {K : Int} (hR : REL M K) (hK : K + 12000 ≤ 70000000) {H : Heap} {locs : List Loc} {cells slots : Nat} {ls : Array Slot} (hH : gH w gN gRm M s H locs) (hc : cells + 10 ≤ 601024 ∧ slots + 100 ≤ 7293034) (hl : lv_has ls 9 [(0, .ref b), (1, .ref (w.1 + 1)), (2, .ref (w.1 + 855)), (3, .ref (w.1 + 864)), (4, .int (gi (i : Int)))])
    (kk : ∀ H locs ls M K', gH w gN gRm M s H locs → REL M K' → K' ≤ K + 12000 → lv_has ls 9 [(0, .ref b), (1, .ref (w.1 + 1)), (2, .ref (w.1 + 855)), (3, .ref (w.1 + 864)), (4, .int (gi (i : Int)))] → W p l e room_1 s m [Value.ref b].toArray below meth c H locs (cells + 10) (slots + 100) Q (F0 m 1972 ls [])) :
    W p l e room_1 s m [Value.ref b].toArray below meth c H locs cells slots Q (F0 m 1655 ls []) := by
  obtain ⟨res, M1, e1, he, hz⟩ := z_kill (y1 := sx xs i 1) hR hK
  obtain ⟨M2, e2, v7, v8, hR2⟩ := hz (gWm res M1) (gWm_out res M1)
  refine lv_aload_n hM.fx.1 hM.fx.2.1 dL_law_1655 rfl (lv_at hl 1 rfl) ?_
  refine l_arg (k := 1) hM hS hi (by decide) (lv_at hl 0 rfl) (lv_at hl 4 rfl) dL_law_1656 dL_law_1657 dL_law_1659 dL_law_1660 dL_law_1661 hH ?_
  refine lv_aload_n hM.fx.1 hM.fx.2.1 dL_law_1662 rfl (lv_at hl 3 rfl) ?_
  refine r_go1 (rest := []) (v := .int (gi (qThr 3 res))) hH rfl (r_runX (As := [.ref (w.1 + 1), .int (gi (sx xs i 1)), .ref (w.1 + 864)]) hM hH csM_206 (wL_kill hl9 (sx_r xs i 1) e1 he) rfl hl.1 rfl (Nat.le_of_ble_eq_true rfl) ⟨Nat.le_of_ble_eq_true rfl, Nat.le_of_ble_eq_true rfl⟩ ⟨by show cells + 1 ≤ 601024; omega, by show slots + 6 ≤ 7293034; omega⟩ dL_law_1663) (fun hz0 H locs hH => ?_)
  refine lv_istore (lv' := [(5, .int (gi (qThr 3 res))), (0, .ref b), (1, .ref (w.1 + 1)), (2, .ref (w.1 + 855)), (3, .ref (w.1 + 864)), (4, .int (gi (i : Int)))]) hM.fx.1 hM.fx.2.1 dL_law_1666 hl (by decide) rfl (fun ls hl => ?_)
  refine lv_aload_n hM.fx.1 hM.fx.2.1 dL_law_1668 rfl (lv_at hl 3 rfl) ?_
  refine l_arg (k := 1) hM hS hi (by decide) (lv_at hl 1 rfl) (lv_at hl 5 rfl) dL_law_1669 dL_law_1670 dL_law_1672 dL_law_1673 dL_law_1674 hH ?_
  refine r_go1 (rest := []) (v := .int (gi (qWert res))) hH rfl (r_runVD (As := [.int (gi (sx xs i 1))]) (b := 855) (t := 9) hM hH cvM_208 (mX9_kill gLC_main hl9 (g := gsh) (by decide +kernel) (sx_r xs i 1) e2) ⟨by decide, by decide, by decide +kernel⟩ (by decide) rfl rfl rfl hl.1 rfl (Nat.le_of_ble_eq_true rfl) ⟨Nat.le_of_ble_eq_true rfl, Nat.le_of_ble_eq_true rfl⟩ ⟨by show cells + 1 + 0 ≤ 601024; omega, by show slots + 6 + 0 ≤ 7293034; omega⟩ dL_law_1675) (fun hz1 H locs hH => ?_)
  refine l_tail (M := M2) (q := 1678) hM hl9 hH (res := res) v7 (fun z h => by rw [v8]; subst h; exact gup_hit rfl rfl) hz1 hl (kk := ?_) cvM_107 (by show cells + 1 + 0 ≤ 601024; omega) (by show slots + 6 + 0 ≤ 7293034; omega) dL_law_1678 dL_law_1680 dL_law_1681 dL_law_1684 dL_law_1686 dL_law_1691 dL_law_1693 dL_law_1696 dL_law_1697 dL_law_1698 dL_law_1699 dL_law_1701 dL_law_1702 dL_law_1703 dL_law_1708 (by decide)
  intro H locs ls hH hl
  exact W.widen (by show cells + 1 + 0 ≤ cells + 10; omega) (by show slots + 6 + 0 ≤ slots + 100; omega) (kk H locs ls M2 _ hH hR2 (by omega) hl)
theorem gm_1159 : Cond.methodLink RL 209 yL_wake ∈ gG := gG_in 1159 (by decide +kernel) (by decide +kernel)
theorem gm_1160 : Cond.static yL_wake ∈ gG := gG_in 1160 (by decide +kernel) (by decide +kernel)
theorem csM_209 : gCW RL 209 yL_wake cL_wake 4 [(0, 9, 12, 25)] 3 := ⟨gm_1159, gm_1160, gm_91, gl_1161, by decide +kernel⟩
theorem gm_1697 : Cond.methodLink RL 211 yX9_wake ∈ gG := gG_in 1697 (by decide +kernel) (by decide +kernel)
theorem gm_1698 : Cond.instanceMethod yX9_wake ∈ gG := gG_in 1698 (by decide +kernel) (by decide +kernel)
theorem gm_1699 : Cond.selects yX9_wake.cls yX9_wake yX9_wake ∈ gG := gG_in 1699 (by decide +kernel) (by decide +kernel)
theorem gm_1700 : Cond.code yX9_wake cX9_wake 3 (some .int) ∈ gG := gG_in 1700 (by decide +kernel) (by decide +kernel)
theorem cvM_211 : gCV RL 211 yX9_wake cX9_wake 3 (some .int) 1 := ⟨gm_1697, gm_1698, gm_1699, gm_100, gm_1700, by decide +kernel⟩
set_option maxHeartbeats 4000000 in
set_option maxRecDepth 100000 in
theorem lc_29 {w : gW} {p : Program} {l : Launch} {e : Env} {s : State} {m : MethodId} {below : List Frame} {meth : Method} {c : Code} {b L : Nat} {xs : Nat → Int32} {Q : State → Prop} (hM : gMD w p l s m [Value.ref b].toArray c cL_law 9 RL) (hl9 : l.stackTraces = false) (hS : gSc w s b L xs) {i : Nat} (hi : i + 6 ≤ L) {M : gMem} {K : Int} (hR : REL M K) (hK : K + 12000 ≤ 70000000) {H : Heap} {locs : List Loc} {cells slots : Nat} {ls : Array Slot} (hH : gH w gN gRm M s H locs) (hc : cells + 10 ≤ 601024 ∧ slots + 100 ≤ 7293034) (hl : lv_has ls 9 [(0, .ref b), (1, .ref (w.1 + 1)), (2, .ref (w.1 + 855)), (3, .ref (w.1 + 864)), (4, .int (gi (i : Int)))])
    (kk : ∀ H locs ls M K', gH w gN gRm M s H locs → REL M K' → K' ≤ K + 12000 → lv_has ls 9 [(0, .ref b), (1, .ref (w.1 + 1)), (2, .ref (w.1 + 855)), (3, .ref (w.1 + 864)), (4, .int (gi (i : Int)))] → W p l e room_1 s m [Value.ref b].toArray below meth c H locs (cells + 10) (slots + 100) Q (F0 m 1972 ls [])) :
    W p l e room_1 s m [Value.ref b].toArray below meth c H locs cells slots Q (F0 m 1711 ls []) := by
  obtain ⟨res, M1, e1, he, hz⟩ := z_wake (y1 := sx xs i 1) hR hK
  obtain ⟨M2, e2, v7, v8, hR2⟩ := hz (gWm res M1) (gWm_out res M1)
  refine lv_aload_n hM.fx.1 hM.fx.2.1 dL_law_1711 rfl (lv_at hl 1 rfl) ?_
  refine l_arg (k := 1) hM hS hi (by decide) (lv_at hl 0 rfl) (lv_at hl 4 rfl) dL_law_1712 dL_law_1713 dL_law_1715 dL_law_1716 dL_law_1717 hH ?_
  refine lv_aload_n hM.fx.1 hM.fx.2.1 dL_law_1718 rfl (lv_at hl 3 rfl) ?_
  refine r_go1 (rest := []) (v := .int (gi (qThr 3 res))) hH rfl (r_runX (As := [.ref (w.1 + 1), .int (gi (sx xs i 1)), .ref (w.1 + 864)]) hM hH csM_209 (wL_wake hl9 (sx_r xs i 1) e1 he) rfl hl.1 rfl (Nat.le_of_ble_eq_true rfl) ⟨Nat.le_of_ble_eq_true rfl, Nat.le_of_ble_eq_true rfl⟩ ⟨by show cells + 1 ≤ 601024; omega, by show slots + 6 ≤ 7293034; omega⟩ dL_law_1719) (fun hz0 H locs hH => ?_)
  refine lv_istore (lv' := [(5, .int (gi (qThr 3 res))), (0, .ref b), (1, .ref (w.1 + 1)), (2, .ref (w.1 + 855)), (3, .ref (w.1 + 864)), (4, .int (gi (i : Int)))]) hM.fx.1 hM.fx.2.1 dL_law_1722 hl (by decide) rfl (fun ls hl => ?_)
  refine lv_aload_n hM.fx.1 hM.fx.2.1 dL_law_1724 rfl (lv_at hl 3 rfl) ?_
  refine l_arg (k := 1) hM hS hi (by decide) (lv_at hl 1 rfl) (lv_at hl 5 rfl) dL_law_1725 dL_law_1726 dL_law_1728 dL_law_1729 dL_law_1730 hH ?_
  refine r_go1 (rest := []) (v := .int (gi (qWert res))) hH rfl (r_runVD (As := [.int (gi (sx xs i 1))]) (b := 855) (t := 9) hM hH cvM_211 (mX9_wake gLC_main hl9 (g := gsh) (by decide +kernel) (sx_r xs i 1) e2) ⟨by decide, by decide, by decide +kernel⟩ (by decide) rfl rfl rfl hl.1 rfl (Nat.le_of_ble_eq_true rfl) ⟨Nat.le_of_ble_eq_true rfl, Nat.le_of_ble_eq_true rfl⟩ ⟨by show cells + 1 + 0 ≤ 601024; omega, by show slots + 6 + 0 ≤ 7293034; omega⟩ dL_law_1731) (fun hz1 H locs hH => ?_)
  refine l_tail (M := M2) (q := 1734) hM hl9 hH (res := res) v7 (fun z h => by rw [v8]; subst h; exact gup_hit rfl rfl) hz1 hl (kk := ?_) cvM_107 (by show cells + 1 + 0 ≤ 601024; omega) (by show slots + 6 + 0 ≤ 7293034; omega) dL_law_1734 dL_law_1736 dL_law_1737 dL_law_1740 dL_law_1742 dL_law_1747 dL_law_1749 dL_law_1752 dL_law_1753 dL_law_1754 dL_law_1755 dL_law_1757 dL_law_1758 dL_law_1759 dL_law_1764 (by decide)
  intro H locs ls hH hl
  exact W.widen (by show cells + 1 + 0 ≤ cells + 10; omega) (by show slots + 6 + 0 ≤ slots + 100; omega) (kk H locs ls M2 _ hH hR2 (by omega) hl)
theorem gm_1166 : Cond.methodLink RL 212 yL_undo ∈ gG := gG_in 1166 (by decide +kernel) (by decide +kernel)
theorem gm_1167 : Cond.static yL_undo ∈ gG := gG_in 1167 (by decide +kernel) (by decide +kernel)
theorem csM_212 : gCW RL 212 yL_undo cL_undo 3 [(0, 8, 11, 13)] 2 := ⟨gm_1166, gm_1167, gm_91, gl_1168, by decide +kernel⟩
theorem gm_1281 : Cond.methodLink RL 215 yX9_undo ∈ gG := gG_in 1281 (by decide +kernel) (by decide +kernel)
theorem gm_1282 : Cond.instanceMethod yX9_undo ∈ gG := gG_in 1282 (by decide +kernel) (by decide +kernel)
theorem gm_1283 : Cond.selects yX9_undo.cls yX9_undo yX9_undo ∈ gG := gG_in 1283 (by decide +kernel) (by decide +kernel)
theorem gm_1284 : Cond.code yX9_undo cX9_undo 1 (some .int) ∈ gG := gG_in 1284 (by decide +kernel) (by decide +kernel)
theorem cvM_215 : gCV RL 215 yX9_undo cX9_undo 1 (some .int) 0 := ⟨gm_1281, gm_1282, gm_1283, gm_100, gm_1284, by decide +kernel⟩
set_option maxHeartbeats 4000000 in
set_option maxRecDepth 100000 in
theorem lc_30 {w : gW} {p : Program} {l : Launch} {e : Env} {s : State} {m : MethodId} {below : List Frame} {meth : Method} {c : Code} {b L : Nat} {xs : Nat → Int32} {Q : State → Prop} (hM : gMD w p l s m [Value.ref b].toArray c cL_law 9 RL) (hl9 : l.stackTraces = false) (hS : gSc w s b L xs) {i : Nat} (hi : i + 6 ≤ L) {M : gMem} {K : Int} (hR : REL M K) (hK : K + 12000 ≤ 70000000) {H : Heap} {locs : List Loc} {cells slots : Nat} {ls : Array Slot} (hH : gH w gN gRm M s H locs) (hc : cells + 10 ≤ 601024 ∧ slots + 100 ≤ 7293034) (hl : lv_has ls 9 [(0, .ref b), (1, .ref (w.1 + 1)), (2, .ref (w.1 + 855)), (3, .ref (w.1 + 864)), (4, .int (gi (i : Int)))])
    (kk : ∀ H locs ls M K', gH w gN gRm M s H locs → REL M K' → K' ≤ K + 12000 → lv_has ls 9 [(0, .ref b), (1, .ref (w.1 + 1)), (2, .ref (w.1 + 855)), (3, .ref (w.1 + 864)), (4, .int (gi (i : Int)))] → W p l e room_1 s m [Value.ref b].toArray below meth c H locs (cells + 10) (slots + 100) Q (F0 m 1972 ls [])) :
    W p l e room_1 s m [Value.ref b].toArray below meth c H locs cells slots Q (F0 m 1767 ls []) := by
  obtain ⟨res, M1, e1, he, hz⟩ := z_undo  hR
  obtain ⟨M2, e2, v7, v8, hR2⟩ := hz (gWm res M1) (gWm_out res M1)
  refine lv_aload_n hM.fx.1 hM.fx.2.1 dL_law_1767 rfl (lv_at hl 1 rfl) ?_
  refine lv_aload_n hM.fx.1 hM.fx.2.1 dL_law_1768 rfl (lv_at hl 3 rfl) ?_
  refine r_go1 (rest := []) (v := .int (gi (qThr 1 res))) hH rfl (r_runX (As := [.ref (w.1 + 1), .ref (w.1 + 864)]) hM hH csM_212 (wL_undo hl9  e1 he) rfl hl.1 rfl (Nat.le_of_ble_eq_true rfl) ⟨Nat.le_of_ble_eq_true rfl, Nat.le_of_ble_eq_true rfl⟩ ⟨by show cells + 1 ≤ 601024; omega, by show slots + 6 ≤ 7293034; omega⟩ dL_law_1769) (fun hz0 H locs hH => ?_)
  refine lv_istore (lv' := [(5, .int (gi (qThr 1 res))), (0, .ref b), (1, .ref (w.1 + 1)), (2, .ref (w.1 + 855)), (3, .ref (w.1 + 864)), (4, .int (gi (i : Int)))]) hM.fx.1 hM.fx.2.1 dL_law_1772 hl (by decide) rfl (fun ls hl => ?_)
  refine lv_aload_n hM.fx.1 hM.fx.2.1 dL_law_1774 rfl (lv_at hl 3 rfl) ?_
  refine r_go1 (rest := []) (v := .int (gi (qWert res))) hH rfl (r_runVD (As := []) (b := 855) (t := 9) hM hH cvM_215 (mX9_undo gLC_main hl9 (g := gsh) (by decide +kernel)  e2) ⟨by decide, by decide, by decide +kernel⟩ (by decide) rfl rfl rfl hl.1 rfl (Nat.le_of_ble_eq_true rfl) ⟨Nat.le_of_ble_eq_true rfl, Nat.le_of_ble_eq_true rfl⟩ ⟨by show cells + 1 + 0 ≤ 601024; omega, by show slots + 6 + 0 ≤ 7293034; omega⟩ dL_law_1775) (fun hz1 H locs hH => ?_)
  refine l_tail (M := M2) (q := 1778) hM hl9 hH (res := res) v7 (fun z h => by rw [v8]; subst h; exact gup_hit rfl rfl) hz1 hl (kk := ?_) cvM_107 (by show cells + 1 + 0 ≤ 601024; omega) (by show slots + 6 + 0 ≤ 7293034; omega) dL_law_1778 dL_law_1780 dL_law_1781 dL_law_1784 dL_law_1786 dL_law_1791 dL_law_1793 dL_law_1796 dL_law_1797 dL_law_1798 dL_law_1799 dL_law_1801 dL_law_1802 dL_law_1803 dL_law_1808 (by decide)
  intro H locs ls hH hl
  exact W.widen (by show cells + 1 + 0 ≤ cells + 10; omega) (by show slots + 6 + 0 ≤ slots + 100; omega) (kk H locs ls M2 _ hH hR2 (by omega) hl)
theorem gm_1178 : Cond.methodLink RL 216 yL_save ∈ gG := gG_in 1178 (by decide +kernel) (by decide +kernel)
theorem gm_1179 : Cond.static yL_save ∈ gG := gG_in 1179 (by decide +kernel) (by decide +kernel)
theorem csM_216 : gCW RL 216 yL_save cL_save 3 [(0, 5, 8, 25)] 2 := ⟨gm_1178, gm_1179, gm_91, gl_1180, by decide +kernel⟩
theorem gm_1288 : Cond.methodLink RL 219 yX9_save ∈ gG := gG_in 1288 (by decide +kernel) (by decide +kernel)
theorem gm_1289 : Cond.instanceMethod yX9_save ∈ gG := gG_in 1289 (by decide +kernel) (by decide +kernel)
theorem gm_1290 : Cond.selects yX9_save.cls yX9_save yX9_save ∈ gG := gG_in 1290 (by decide +kernel) (by decide +kernel)
theorem gm_1291 : Cond.code yX9_save cX9_save 2 none ∈ gG := gG_in 1291 (by decide +kernel) (by decide +kernel)
theorem cvM_219 : gCV RL 219 yX9_save cX9_save 2 none 1 := ⟨gm_1288, gm_1289, gm_1290, gm_100, gm_1291, by decide +kernel⟩
set_option maxHeartbeats 4000000 in
set_option maxRecDepth 100000 in
theorem lc_31 {w : gW} {p : Program} {l : Launch} {e : Env} {s : State} {m : MethodId} {below : List Frame} {meth : Method} {c : Code} {b L : Nat} {xs : Nat → Int32} {Q : State → Prop} (hM : gMD w p l s m [Value.ref b].toArray c cL_law 9 RL) (hl9 : l.stackTraces = false) (hS : gSc w s b L xs) {i : Nat} (hi : i + 6 ≤ L) {M : gMem} {K : Int} (hR : REL M K) (hK : K + 12000 ≤ 70000000) {H : Heap} {locs : List Loc} {cells slots : Nat} {ls : Array Slot} (hH : gH w gN gRm M s H locs) (hc : cells + 10 ≤ 601024 ∧ slots + 100 ≤ 7293034) (hl : lv_has ls 9 [(0, .ref b), (1, .ref (w.1 + 1)), (2, .ref (w.1 + 855)), (3, .ref (w.1 + 864)), (4, .int (gi (i : Int)))])
    (kk : ∀ H locs ls M K', gH w gN gRm M s H locs → REL M K' → K' ≤ K + 12000 → lv_has ls 9 [(0, .ref b), (1, .ref (w.1 + 1)), (2, .ref (w.1 + 855)), (3, .ref (w.1 + 864)), (4, .int (gi (i : Int)))] → W p l e room_1 s m [Value.ref b].toArray below meth c H locs (cells + 10) (slots + 100) Q (F0 m 1972 ls [])) :
    W p l e room_1 s m [Value.ref b].toArray below meth c H locs cells slots Q (F0 m 1811 ls []) := by
  obtain ⟨res, M1, M2, e1, e2, v7, he, hR2⟩ := k_save (y1 := sx xs i 1) hR
  refine lv_aload_n hM.fx.1 hM.fx.2.1 dL_law_1811 rfl (lv_at hl 1 rfl) ?_
  refine l_arg (k := 1) hM hS hi (by decide) (lv_at hl 0 rfl) (lv_at hl 4 rfl) dL_law_1812 dL_law_1813 dL_law_1815 dL_law_1816 dL_law_1817 hH ?_
  refine r_go1 (rest := []) (v := .int (gi ((if res.isLeft then 1 else 0)))) hH rfl (r_runX (As := [.ref (w.1 + 1), .int (gi (sx xs i 1))]) hM hH csM_216 (wL_save hl9 (sx_r xs i 1) e1 he) rfl hl.1 rfl (Nat.le_of_ble_eq_true rfl) ⟨Nat.le_of_ble_eq_true rfl, Nat.le_of_ble_eq_true rfl⟩ ⟨by show cells + 1 ≤ 601024; omega, by show slots + 6 ≤ 7293034; omega⟩ dL_law_1818) (fun hz0 H locs hH => ?_)
  refine lv_istore (lv' := [(5, .int (gi ((if res.isLeft then 1 else 0)))), (0, .ref b), (1, .ref (w.1 + 1)), (2, .ref (w.1 + 855)), (3, .ref (w.1 + 864)), (4, .int (gi (i : Int)))]) hM.fx.1 hM.fx.2.1 dL_law_1821 hl (by decide) rfl (fun ls hl => ?_)
  refine lv_aload_n hM.fx.1 hM.fx.2.1 dL_law_1823 rfl (lv_at hl 3 rfl) ?_
  refine l_arg (k := 1) hM hS hi (by decide) (lv_at hl 1 rfl) (lv_at hl 5 rfl) dL_law_1824 dL_law_1825 dL_law_1827 dL_law_1828 dL_law_1829 hH ?_
  refine r_go0 (rest := []) hH rfl (r_runVD (As := [.int (gi (sx xs i 1))]) (b := 855) (t := 9) hM hH cvM_219 (mX9_save gLC_main hl9 (g := gsh) (by decide +kernel) (sx_r xs i 1) e2) ⟨by decide, by decide, by decide +kernel⟩ (by decide) rfl rfl rfl hl.1 rfl (Nat.le_of_ble_eq_true rfl) ⟨Nat.le_of_ble_eq_true rfl, Nat.le_of_ble_eq_true rfl⟩ ⟨by show cells + 1 + 0 ≤ 601024; omega, by show slots + 6 + 0 ≤ 7293034; omega⟩ dL_law_1830) (fun _ H locs hH => ?_)
  refine l_tail0 (M := M2) (q := 1833) hM hl9 hH (res := res) v7 hl (kk := ?_) cvM_107 (by show cells + 1 + 0 ≤ 601024; omega) (by show slots + 6 + 0 ≤ 7293034; omega) dL_law_1833 dL_law_1834 dL_law_1837 dL_law_1839 dL_law_1844 (by decide)
  intro H locs ls hH hl
  exact W.widen (by show cells + 1 + 0 ≤ cells + 10; omega) (by show slots + 6 + 0 ≤ slots + 100; omega) (kk H locs ls M2 _ hH hR2 (by omega) hl)
theorem gm_1186 : Cond.methodLink RL 220 yL_restore ∈ gG := gG_in 1186 (by decide +kernel) (by decide +kernel)
theorem gm_1187 : Cond.static yL_restore ∈ gG := gG_in 1187 (by decide +kernel) (by decide +kernel)
theorem csM_220 : gCW RL 220 yL_restore cL_restore 4 [(0, 9, 12, 25), (0, 9, 15, 13)] 3 := ⟨gm_1186, gm_1187, gm_91, gl_1188, by decide +kernel⟩
theorem gm_1295 : Cond.methodLink RL 222 yX9_restore ∈ gG := gG_in 1295 (by decide +kernel) (by decide +kernel)
theorem gm_1296 : Cond.instanceMethod yX9_restore ∈ gG := gG_in 1296 (by decide +kernel) (by decide +kernel)
theorem gm_1297 : Cond.selects yX9_restore.cls yX9_restore yX9_restore ∈ gG := gG_in 1297 (by decide +kernel) (by decide +kernel)
theorem gm_1298 : Cond.code yX9_restore cX9_restore 2 (some .int) ∈ gG := gG_in 1298 (by decide +kernel) (by decide +kernel)
theorem cvM_222 : gCV RL 222 yX9_restore cX9_restore 2 (some .int) 1 := ⟨gm_1295, gm_1296, gm_1297, gm_100, gm_1298, by decide +kernel⟩
set_option maxHeartbeats 4000000 in
set_option maxRecDepth 100000 in
theorem lc_32 {w : gW} {p : Program} {l : Launch} {e : Env} {s : State} {m : MethodId} {below : List Frame} {meth : Method} {c : Code} {b L : Nat} {xs : Nat → Int32} {Q : State → Prop} (hM : gMD w p l s m [Value.ref b].toArray c cL_law 9 RL) (hl9 : l.stackTraces = false) (hS : gSc w s b L xs) {i : Nat} (hi : i + 6 ≤ L) {M : gMem} {K : Int} (hR : REL M K) (hK : K + 12000 ≤ 70000000) {H : Heap} {locs : List Loc} {cells slots : Nat} {ls : Array Slot} (hH : gH w gN gRm M s H locs) (hc : cells + 10 ≤ 601024 ∧ slots + 100 ≤ 7293034) (hl : lv_has ls 9 [(0, .ref b), (1, .ref (w.1 + 1)), (2, .ref (w.1 + 855)), (3, .ref (w.1 + 864)), (4, .int (gi (i : Int)))])
    (kk : ∀ H locs ls M K', gH w gN gRm M s H locs → REL M K' → K' ≤ K + 12000 → lv_has ls 9 [(0, .ref b), (1, .ref (w.1 + 1)), (2, .ref (w.1 + 855)), (3, .ref (w.1 + 864)), (4, .int (gi (i : Int)))] → W p l e room_1 s m [Value.ref b].toArray below meth c H locs (cells + 10) (slots + 100) Q (F0 m 1972 ls [])) :
    W p l e room_1 s m [Value.ref b].toArray below meth c H locs cells slots Q (F0 m 1847 ls []) := by
  obtain ⟨res, M1, e1, he, hz⟩ := z_restore (y1 := sx xs i 1) hR
  obtain ⟨M2, e2, v7, v8, hR2⟩ := hz (gWm res M1) (gWm_out res M1)
  refine lv_aload_n hM.fx.1 hM.fx.2.1 dL_law_1847 rfl (lv_at hl 1 rfl) ?_
  refine l_arg (k := 1) hM hS hi (by decide) (lv_at hl 0 rfl) (lv_at hl 4 rfl) dL_law_1848 dL_law_1849 dL_law_1851 dL_law_1852 dL_law_1853 hH ?_
  refine lv_aload_n hM.fx.1 hM.fx.2.1 dL_law_1854 rfl (lv_at hl 3 rfl) ?_
  refine r_go1 (rest := []) (v := .int (gi (qThr 3 res))) hH rfl (r_runX (As := [.ref (w.1 + 1), .int (gi (sx xs i 1)), .ref (w.1 + 864)]) hM hH csM_220 (wL_restore hl9 (sx_r xs i 1) e1 he) rfl hl.1 rfl (Nat.le_of_ble_eq_true rfl) ⟨Nat.le_of_ble_eq_true rfl, Nat.le_of_ble_eq_true rfl⟩ ⟨by show cells + 2 ≤ 601024; omega, by show slots + 12 ≤ 7293034; omega⟩ dL_law_1855) (fun hz0 H locs hH => ?_)
  refine lv_istore (lv' := [(5, .int (gi (qThr 3 res))), (0, .ref b), (1, .ref (w.1 + 1)), (2, .ref (w.1 + 855)), (3, .ref (w.1 + 864)), (4, .int (gi (i : Int)))]) hM.fx.1 hM.fx.2.1 dL_law_1858 hl (by decide) rfl (fun ls hl => ?_)
  refine lv_aload_n hM.fx.1 hM.fx.2.1 dL_law_1860 rfl (lv_at hl 3 rfl) ?_
  refine l_arg (k := 1) hM hS hi (by decide) (lv_at hl 1 rfl) (lv_at hl 5 rfl) dL_law_1861 dL_law_1862 dL_law_1864 dL_law_1865 dL_law_1866 hH ?_
  refine r_go1 (rest := []) (v := .int (gi (qWert res))) hH rfl (r_runVD (As := [.int (gi (sx xs i 1))]) (b := 855) (t := 9) hM hH cvM_222 (mX9_restore gLC_main hl9 (g := gsh) (by decide +kernel) (sx_r xs i 1) e2) ⟨by decide, by decide, by decide +kernel⟩ (by decide) rfl rfl rfl hl.1 rfl (Nat.le_of_ble_eq_true rfl) ⟨Nat.le_of_ble_eq_true rfl, Nat.le_of_ble_eq_true rfl⟩ ⟨by show cells + 2 + 0 ≤ 601024; omega, by show slots + 12 + 0 ≤ 7293034; omega⟩ dL_law_1867) (fun hz1 H locs hH => ?_)
  refine l_tail (M := M2) (q := 1870) hM hl9 hH (res := res) v7 (fun z h => by rw [v8]; subst h; exact gup_hit rfl rfl) hz1 hl (kk := ?_) cvM_107 (by show cells + 2 + 0 ≤ 601024; omega) (by show slots + 12 + 0 ≤ 7293034; omega) dL_law_1870 dL_law_1872 dL_law_1873 dL_law_1876 dL_law_1878 dL_law_1883 dL_law_1885 dL_law_1888 dL_law_1889 dL_law_1890 dL_law_1891 dL_law_1893 dL_law_1894 dL_law_1895 dL_law_1900 (by decide)
  intro H locs ls hH hl
  exact W.widen (by show cells + 2 + 0 ≤ cells + 10; omega) (by show slots + 12 + 0 ≤ slots + 100; omega) (kk H locs ls M2 _ hH hR2 (by omega) hl)
theorem gm_806 : Cond.methodLink RL 223 yX8_writeStacks ∈ gG := gG_in 806 (by decide +kernel) (by decide +kernel)
theorem gm_807 : Cond.instanceMethod yX8_writeStacks ∈ gG := gG_in 807 (by decide +kernel) (by decide +kernel)
theorem gm_808 : Cond.selects yX8_writeStacks.cls yX8_writeStacks yX8_writeStacks ∈ gG := gG_in 808 (by decide +kernel) (by decide +kernel)
theorem gm_809 : Cond.code yX8_writeStacks cX8_writeStacks 1 (some .int) ∈ gG := gG_in 809 (by decide +kernel) (by decide +kernel)
theorem cvM_223 : gCV RL 223 yX8_writeStacks cX8_writeStacks 1 (some .int) 0 := ⟨gm_806, gm_807, gm_808, gm_92, gm_809, by decide +kernel⟩
theorem gm_1701 : Cond.methodLink RL 226 yX9_writeStacks ∈ gG := gG_in 1701 (by decide +kernel) (by decide +kernel)
theorem gm_1702 : Cond.instanceMethod yX9_writeStacks ∈ gG := gG_in 1702 (by decide +kernel) (by decide +kernel)
theorem gm_1703 : Cond.selects yX9_writeStacks.cls yX9_writeStacks yX9_writeStacks ∈ gG := gG_in 1703 (by decide +kernel) (by decide +kernel)
theorem gm_1704 : Cond.code yX9_writeStacks cX9_writeStacks 4 (some .int) ∈ gG := gG_in 1704 (by decide +kernel) (by decide +kernel)
theorem cvM_226 : gCV RL 226 yX9_writeStacks cX9_writeStacks 4 (some .int) 0 := ⟨gm_1701, gm_1702, gm_1703, gm_100, gm_1704, by decide +kernel⟩
set_option maxHeartbeats 4000000 in
set_option maxRecDepth 100000 in
theorem lc_33 {w : gW} {p : Program} {l : Launch} {e : Env} {s : State} {m : MethodId} {below : List Frame} {meth : Method} {c : Code} {b L : Nat} {xs : Nat → Int32} {Q : State → Prop} (hM : gMD w p l s m [Value.ref b].toArray c cL_law 9 RL) (hl9 : l.stackTraces = false) (hS : gSc w s b L xs) {i : Nat} (hi : i + 6 ≤ L) {M : gMem} {K : Int} (hR : REL M K) (hK : K + 12000 ≤ 70000000) {H : Heap} {locs : List Loc} {cells slots : Nat} {ls : Array Slot} (hH : gH w gN gRm M s H locs) (hc : cells + 10 ≤ 601024 ∧ slots + 100 ≤ 7293034) (hl : lv_has ls 9 [(0, .ref b), (1, .ref (w.1 + 1)), (2, .ref (w.1 + 855)), (3, .ref (w.1 + 864)), (4, .int (gi (i : Int)))])
    (kk : ∀ H locs ls M K', gH w gN gRm M s H locs → REL M K' → K' ≤ K + 12000 → lv_has ls 9 [(0, .ref b), (1, .ref (w.1 + 1)), (2, .ref (w.1 + 855)), (3, .ref (w.1 + 864)), (4, .int (gi (i : Int)))] → W p l e room_1 s m [Value.ref b].toArray below meth c H locs (cells + 10) (slots + 100) Q (F0 m 1972 ls [])) :
    W p l e room_1 s m [Value.ref b].toArray below meth c H locs cells slots Q (F0 m 1903 ls []) := by
  obtain ⟨v, M1, M2, e1, e2, hR2⟩ := k_writeStacks hR
  refine lv_aload_n hM.fx.1 hM.fx.2.1 dL_law_1903 rfl (lv_at hl 1 rfl) ?_
  refine r_go1 (rest := []) (v := .int (gi v)) hH rfl (r_runVD (As := []) (b := 1) (t := 8) hM hH cvM_223 (mX8_writeStacks gLC_main hl9 (g := gsh) (by decide +kernel) e1) ⟨by decide, by decide, by decide +kernel⟩ (by decide) rfl rfl rfl hl.1 rfl (Nat.le_of_ble_eq_true rfl) ⟨Nat.le_of_ble_eq_true rfl, Nat.le_of_ble_eq_true rfl⟩ ⟨by show cells + 0 ≤ 601024; omega, by show slots + 0 ≤ 7293034; omega⟩ dL_law_1904) (fun hv0 H locs hH => ?_)
  refine lv_aload_n hM.fx.1 hM.fx.2.1 dL_law_1907 rfl (lv_at hl 2 rfl) ?_
  refine r_go1 (rest := [.int (gi v)]) (v := .int (gi v)) hH rfl (r_runVD (As := []) (b := 855) (t := 9) hM hH cvM_226 (mX9_writeStacks gLC_main hl9 (g := gsh) (by decide +kernel) e2) ⟨by decide, by decide, by decide +kernel⟩ (by decide) rfl rfl rfl hl.1 rfl (Nat.le_of_ble_eq_true rfl) ⟨Nat.le_of_ble_eq_true rfl, Nat.le_of_ble_eq_true rfl⟩ ⟨by show cells + 0 + 0 ≤ 601024; omega, by show slots + 0 + 0 ≤ 7293034; omega⟩ dL_law_1908) (fun hv1 H locs hH => ?_)
  refine r_icmp_eq (tgt := 1972) hM.fx hv0 hv1 dL_law_1911 (by decide) (fun _ => ?_) (fun h => absurd rfl h)
  exact W.widen (by show cells + 0 + 0 ≤ cells + 10; omega) (by show slots + 0 + 0 ≤ slots + 100; omega) (kk H locs ls M2 _ hH hR2 (by omega) hl)
theorem gm_1194 : Cond.methodLink RL 227 yL_writtenByte ∈ gG := gG_in 1194 (by decide +kernel) (by decide +kernel)
theorem gm_1195 : Cond.static yL_writtenByte ∈ gG := gG_in 1195 (by decide +kernel) (by decide +kernel)
theorem csM_227 : gCW RL 227 yL_writtenByte cL_writtenByte 4 [(0, 9, 12, 25)] 3 := ⟨gm_1194, gm_1195, gm_91, gl_1196, by decide +kernel⟩
theorem gm_1713 : Cond.methodLink RL 229 yX9_writtenByte ∈ gG := gG_in 1713 (by decide +kernel) (by decide +kernel)
theorem gm_1714 : Cond.instanceMethod yX9_writtenByte ∈ gG := gG_in 1714 (by decide +kernel) (by decide +kernel)
theorem gm_1715 : Cond.selects yX9_writtenByte.cls yX9_writtenByte yX9_writtenByte ∈ gG := gG_in 1715 (by decide +kernel) (by decide +kernel)
theorem gm_1716 : Cond.code yX9_writtenByte cX9_writtenByte 2 (some .int) ∈ gG := gG_in 1716 (by decide +kernel) (by decide +kernel)
theorem cvM_229 : gCV RL 229 yX9_writtenByte cX9_writtenByte 2 (some .int) 1 := ⟨gm_1713, gm_1714, gm_1715, gm_100, gm_1716, by decide +kernel⟩
set_option maxHeartbeats 4000000 in
set_option maxRecDepth 100000 in
theorem lc_34 {w : gW} {p : Program} {l : Launch} {e : Env} {s : State} {m : MethodId} {below : List Frame} {meth : Method} {c : Code} {b L : Nat} {xs : Nat → Int32} {Q : State → Prop} (hM : gMD w p l s m [Value.ref b].toArray c cL_law 9 RL) (hl9 : l.stackTraces = false) (hS : gSc w s b L xs) {i : Nat} (hi : i + 6 ≤ L) {M : gMem} {K : Int} (hR : REL M K) (hK : K + 12000 ≤ 70000000) {H : Heap} {locs : List Loc} {cells slots : Nat} {ls : Array Slot} (hH : gH w gN gRm M s H locs) (hc : cells + 10 ≤ 601024 ∧ slots + 100 ≤ 7293034) (hl : lv_has ls 9 [(0, .ref b), (1, .ref (w.1 + 1)), (2, .ref (w.1 + 855)), (3, .ref (w.1 + 864)), (4, .int (gi (i : Int)))])
    (kk : ∀ H locs ls M K', gH w gN gRm M s H locs → REL M K' → K' ≤ K + 12000 → lv_has ls 9 [(0, .ref b), (1, .ref (w.1 + 1)), (2, .ref (w.1 + 855)), (3, .ref (w.1 + 864)), (4, .int (gi (i : Int)))] → W p l e room_1 s m [Value.ref b].toArray below meth c H locs (cells + 10) (slots + 100) Q (F0 m 1972 ls [])) :
    W p l e room_1 s m [Value.ref b].toArray below meth c H locs cells slots Q (F0 m 1916 ls []) := by
  obtain ⟨res, e1, he, hz⟩ := z_writtenByte (y1 := sx xs i 1) hR
  obtain ⟨M2, e2, v7, v8, hR2⟩ := hz (gWm res M) (gWm_out res M)
  refine lv_aload_n hM.fx.1 hM.fx.2.1 dL_law_1916 rfl (lv_at hl 1 rfl) ?_
  refine l_arg (k := 1) hM hS hi (by decide) (lv_at hl 0 rfl) (lv_at hl 4 rfl) dL_law_1917 dL_law_1918 dL_law_1920 dL_law_1921 dL_law_1922 hH ?_
  refine lv_aload_n hM.fx.1 hM.fx.2.1 dL_law_1923 rfl (lv_at hl 3 rfl) ?_
  refine r_go1 (rest := []) (v := .int (gi (qThr 3 res))) hH rfl (r_runX (As := [.ref (w.1 + 1), .int (gi (sx xs i 1)), .ref (w.1 + 864)]) hM hH csM_227 (wL_writtenByte hl9 (sx_r xs i 1) e1 he) rfl hl.1 rfl (Nat.le_of_ble_eq_true rfl) ⟨Nat.le_of_ble_eq_true rfl, Nat.le_of_ble_eq_true rfl⟩ ⟨by show cells + 1 ≤ 601024; omega, by show slots + 6 ≤ 7293034; omega⟩ dL_law_1924) (fun hz0 H locs hH => ?_)
  refine lv_istore (lv' := [(5, .int (gi (qThr 3 res))), (0, .ref b), (1, .ref (w.1 + 1)), (2, .ref (w.1 + 855)), (3, .ref (w.1 + 864)), (4, .int (gi (i : Int)))]) hM.fx.1 hM.fx.2.1 dL_law_1927 hl (by decide) rfl (fun ls hl => ?_)
  refine lv_aload_n hM.fx.1 hM.fx.2.1 dL_law_1929 rfl (lv_at hl 3 rfl) ?_
  refine l_arg (k := 1) hM hS hi (by decide) (lv_at hl 1 rfl) (lv_at hl 5 rfl) dL_law_1930 dL_law_1931 dL_law_1933 dL_law_1934 dL_law_1935 hH ?_
  refine r_go1 (rest := []) (v := .int (gi (qWert res))) hH rfl (r_runVD (As := [.int (gi (sx xs i 1))]) (b := 855) (t := 9) hM hH cvM_229 (mX9_writtenByte gLC_main hl9 (g := gsh) (by decide +kernel) (sx_r xs i 1) e2) ⟨by decide, by decide, by decide +kernel⟩ (by decide) rfl rfl rfl hl.1 rfl (Nat.le_of_ble_eq_true rfl) ⟨Nat.le_of_ble_eq_true rfl, Nat.le_of_ble_eq_true rfl⟩ ⟨by show cells + 1 + 0 ≤ 601024; omega, by show slots + 6 + 0 ≤ 7293034; omega⟩ dL_law_1936) (fun hz1 H locs hH => ?_)
  refine l_tail (M := M2) (q := 1939) hM hl9 hH (res := res) v7 (fun z h => by rw [v8]; subst h; exact gup_hit rfl rfl) hz1 hl (kk := ?_) cvM_107 (by show cells + 1 + 0 ≤ 601024; omega) (by show slots + 6 + 0 ≤ 7293034; omega) dL_law_1939 dL_law_1941 dL_law_1942 dL_law_1945 dL_law_1947 dL_law_1952 dL_law_1954 dL_law_1957 dL_law_1958 dL_law_1959 dL_law_1960 dL_law_1962 dL_law_1963 dL_law_1964 dL_law_1969 (by decide)
  intro H locs ls hH hl
  exact W.widen (by show cells + 1 + 0 ≤ cells + 10; omega) (by show slots + 6 + 0 ≤ slots + 100; omega) (kk H locs ls M2 _ hH hR2 (by omega) hl)
