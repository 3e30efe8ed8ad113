/-! The law's wrappers: a call of the class, what it throws caught (printed by wip/gen/mk_wrap.py) -/
def gNC (U : State) : Prop := va_Nc (gEx 2) (gEx 3) U ∧ va_Nc (gEx 1) (gEx 3) U
theorem gNC.moved {u U : State} (hvm : u.vm.Alike U.vm) (h : gNC u) : gNC U := ⟨h.1.moved hvm, h.2.moved hvm⟩
def gMD (w : gW) (p : Program) (l : Launch) (s : State) (m : MethodId) (args : Array Value) (c : Code) (cc : ByteArray) (nL : Nat) (own : String) : Prop := CallFix p m c cc nL s args gG own ∧ gKF w s ∧ gFix w s s.heap ∧ gNC s
def gLT (w : gW) (n : Nat) (Rm : Nat → Nat → Nat) (l : Launch) (y : MethodName) (cc : ByteArray) (nL : Nat) (hh : List (Nat × Nat × Nat × Nat)) (fr lo mc ms : Nat) (av : List Value) (M : gMem) (v : Int) (M' : gMem) (P : Prop) : Prop :=
  vx_Met l y (.codeWith y cc nL (some .int) hh :: gG) { frames := fr, cells := mc, slots := ms, locals := lo } (va_Pc av (fun U => gWD w n Rm M U ∧ gNC U)) (gRQ w n Rm (.inr (some (.int (gi v)))) M' P) (gXQ w n Rm (.inr (some (.int (gi v)))) M') mc ms (gA w)
def gWm (res : Nat ⊕ Int) (M : gMem) : gMem := match res with
  | .inl _ => M
  | .inr z => gup M 864 0 z
theorem gLT.of {w : gW} {n : Nat} {Rm : Nat → Nat → Nat} {l : Launch} {y : MethodName} {cc : ByteArray} {nL : Nat} {hh : List (Nat × Nat × Nat × Nat)} {fr lo mc ms : Nat} {av : List Value} {M : gMem} {v : Int} {M' : gMem} {P : Prop} (hl9 : l.stackTraces = false)
    (hy : plainName y.cls = true) (hn : (lg_sl av).length ≤ nL)
    (body : ∀ (p : Program) (e : Env) (s : State) (m : MethodId) (below : List Frame) (meth : Method) (c : Code), gMD w p l s m av.toArray c cc nL y.cls → c.exceptionTable.toList = tableOf hh → meth.sig.returnType = some .int → meth.locks = false → gH w n Rm M s s.heap [] → ∀ ls : Array Slot, lv_has ls nL (lv_args 0 av) →
      W p l e { frames := fr, cells := mc, slots := ms, locals := lo } s m av.toArray below meth c s.heap [] 0 0 (gQ w n Rm below av.toArray s mc ms (.inr (some (.int (gi v)))) M' P) (F0 m 0 ls [])) :
    gLT w n Rm l y cc nL hh fr lo mc ms av M v M' P := by
  refine vx_ofWH (cc := cc) (maxL := nL) (ret := some .int) (hh := hh) hy rfl ?_
  intro p e s m args below meth c s₁ B hml hv
  obtain ⟨rfl, ⟨hK, hF, hP, hR⟩, hN⟩ := hv
  have hts := atoms_spec (ws := .codeWith y cc nL (some .int) hh :: gG) B.pre
  have hown : s.vm.findClass y.cls = some m.cls := findClass_of_methodNamed B.named
  rw [lg_entry_eq]
  exact body p e s m below meth c ⟨⟨B.exec, B.bytes, hml, hown, fun x hx => hts x (List.mem_cons_of_mem _ hx)⟩, hK, hF, hN⟩ (vx_table (x := y) B (hts _ List.mem_cons_self)) B.returns B.notSynchronized ⟨hP, va_S.rf, hR⟩ _ (lv_entry av hn)
section Wrap
variable {p : Program} {l : Launch} {e : Env} {R : Room} {s : State} {m : MethodId} {args : Array Value} {below : List Frame} {meth : Method} {c : Code} {H : Heap} {locs : List Loc} {cells slots : Nat} {Q : State → Prop}
variable {cc : ByteArray} {nL : Nat} {own : String} {ret : Option FieldType} {w : gW} {n : Nat} {Rm : Nat → Nat → Nat} {M : gMem} {pc : Nat} {ls : Array Slot} {rest : List Value} {mc ms : Nat}
theorem gMD.fx (hM : gMD w p l s m args c cc nL own) : CallFix p m c cc nL s args gG own := hM.1
theorem gMD.kf (hM : gMD w p l s m args c cc nL own) : gKF w s := hM.2.1
theorem gMD.ff (hM : gMD w p l s m args c cc nL own) : gFix w s s.heap := hM.2.2.1
theorem gMD.nc (hM : gMD w p l s m args c cc nL own) : gNC s := hM.2.2.2
theorem r_runVD {y : MethodName} {bytes : ByteArray} {maxL np idx fr lo mc' ms' b t : Nat} {ry : Option FieldType} {As : List Value} {oc : gOc} {M' : gMem} {P : Prop} {st : List Value} {C : String} {T : u_T} {N : Nat}
    (hM : gMD w p l s m args c cc nL own) (hH : gH w n Rm M s H locs) (cv : gCV own idx y bytes maxL ry np) (hy : gMT w n Rm l y bytes maxL ry fr lo mc' ms' (.ref (w.1 + b) :: As) M oc M' P) (hb : gIn n b t) (h16 : t < 16) (hcl : vwCl[t - 1]? = some (C, T, N)) (hC : y.cls = C)
    (hn : As.length = np) (hsz : ls.size = nL) (hst : st = As.reverse ++ .ref (w.1 + b) :: rest) (hW : (rest.map fun v => v.category).sum ≤ 8) (hR : fr + 1 ≤ R.frames ∧ 8 + (maxL + 11) + lo ≤ R.locals) (hf : cells + mc' ≤ R.cells ∧ slots + ms' ≤ R.slots) (d : decode cc pc = .ok (.invokevirtual idx, 3)) :
    vx_Run p l e R s m args below meth c H locs cells slots mc' ms' (F0 m pc ls st) rest (gRQ w n Rm oc M' P (Value.ref (w.1 + b) :: As).toArray) (gXQ w n Rm oc M') (gA w) := by
  subst hC
  have he := gws_at (w := w) (Rm := Rm) (M := M) hb.1 hb.2.1
  rw [gen_obj hb.2.2 h16] at he
  have hg : GoodIn gG (wsV own idx y.cls y (.code y bytes maxL ry :: gG)) := by
    intro x hx
    simp only [wsV, List.cons_append, List.nil_append, List.mem_cons] at hx
    rcases hx with rfl | rfl | rfl | rfl | rfl | hx
    · exact ⟨cv.1, gG_good _ cv.1⟩
    · exact ⟨cv.2.1, gG_good _ cv.2.1⟩
    · exact ⟨cv.2.2.1, gG_good _ cv.2.2.1⟩
    · exact ⟨cv.2.2.2.1, gG_good _ cv.2.2.2.1⟩
    · exact ⟨cv.2.2.2.2.1, gG_good _ cv.2.2.2.2.1⟩
    · exact ⟨hx, gG_good _ hx⟩
  exact vx_runV (As := As) (rest := rest) hM.fx hy (cwV np hM.fx.2.2.2.2 hg rfl rfl rfl ⟨rfl, cv.2.2.2.2.2⟩ hR) ⟨gblind, va_recv hM.kf.1 hH.1 hcl he, fun U hU hW' => ⟨rfl, gWD.at hM.kf hM.ff hH hU hW'⟩⟩ rfl hn hsz hst (lv_room hW) d hf
theorem d_iret (hM : gMD w p l s m args c cc nL own) (rt : meth.sig.returnType = some .int) (lk : meth.locks = false) (hH : gH w n Rm M s H locs) {v : Int} {P : Prop} (hP : P) (hc : cells ≤ mc ∧ slots ≤ ms) (d : decode cc pc = .ok (.ireturn, 1)) : W p l e R s m args below meth c H locs cells slots (gQ w n Rm below args s mc ms (.inr (some (.int (gi v)))) M P) (F0 m pc ls [.int (gi v)]) :=
  W.widen hc.1 hc.2 (vx_ret (W.iret hM.fx.1 hM.fx.2.1 rt (fun t ht _ => ⟨hP, _, rfl, rfl, ⟨by rw [ht]; exact hH.1, hH.2.2⟩, hH.2.1.F ht⟩) hH.2.1.2.2 d lk))
/-- what is thrown by a call, caught by the row x of this method's table -/
theorem r_goC {mc' ms' : Nat} {a : Array Value} {oc : gOc} {E : String} {M' : gMem} {P : Prop} {st : List Value} (hM : gMD w p l s m args c cc nL own) (hH : gH w n Rm M s H locs) (ho : oc = .inl E)
    (hr : vx_Run p l e R s m args below meth c H locs cells slots mc' ms' (F0 m pc ls st) rest (gRQ w n Rm oc M' P a) (gXQ w n Rm oc M') (gA w)) (pre : List ExceptionTableEntry) (x : ExceptionTableEntry) (suf : List ExceptionTableEntry) (hsplit : c.exceptionTable.toList = pre ++ x :: suf)
    (hpass : ∀ z ∈ pre, z.catchType ≠ 0 ∧ ∃ nm : String, Cond.classLink own z.catchType nm ∈ gG ∧ va_Nc E nm s) (hx : covers x pc = true) (h0 : x.catchType ≠ 0) (hlink : Cond.classLink own x.catchType E ∈ gG) (hcast : Cond.castable E E ∈ gNG)
    (kk : ∀ q H1 locs1, gH w n Rm M' s H1 locs1 → W p l e R s m args below meth c H1 locs1 (cells + mc') (slots + ms') Q (F0 m x.handlerPc ls [.ref q])) : W p l e R s m args below meth c H locs cells slots Q (F0 m pc ls st) := by
  subst ho
  have ok := hM.fx.2.2.2.2
  intro T hT X
  rcases hr T hT X with ⟨v', st₀, t, T', L, h0', X', hL, e1, e2, ⟨-, v2, hv, -⟩, -⟩ | ⟨q, st₀, t, T', L, E', ce, h0', X', hL, e1, e2, ⟨hcon, hP, hF⟩, hce, hcv, hcl, st⟩
  · cases hv
  · cases hcon
    obtain ⟨k1, k2, k3⟩ := vx_keep h0' e1 hH.2.1 (fun _ _ z => z) (fun _ z => z) hL hF
    obtain ⟨t2, a1, b1⟩ := vx_catch (cells := cells + mc') (slots := slots + ms') (H := T'.heap) (ls := ls) (rest := rest) (pc := pc) (locs := locs ++ L) (name := E) hM.fx.2.2.2.1 pre x suf hsplit
      (fun z hz => Or.inr ⟨(hpass z hz).1, (hpass z hz).2.choose, ok _ (hpass z hz).2.choose_spec.1, (hpass z hz).2.choose_spec.2⟩) hx h0 (ok _ hlink) (va_Nw.use (gNw_on (List.mem_filter.mp hcast).2) (hM.kf.2.1 _ hcast)) (by rw [e1]; exact hce) hcv hcl (kk q T'.heap (locs ++ L) ⟨by rw [e1]; exact hP.1, k3, hP.2⟩) T' rfl X'
    exact ⟨t2, st.trans a1, b1⟩
end Wrap

theorem gl_838 : Cond.classLink RL 13 (gEx 1) ∈ gG := gG_in 838 (by decide +kernel) (by decide +kernel)
theorem gl_848 : Cond.castable (gEx 1) (gEx 1) ∈ gNG := List.mem_filter.mpr ⟨List.mem_of_getElem? (i := 848) (by decide +kernel), by decide +kernel⟩
theorem gl_920 : Cond.classLink RL 19 (gEx 2) ∈ gG := gG_in 920 (by decide +kernel) (by decide +kernel)
theorem gl_937 : Cond.castable (gEx 2) (gEx 2) ∈ gNG := List.mem_filter.mpr ⟨List.mem_of_getElem? (i := 937) (by decide +kernel), by decide +kernel⟩
theorem gl_954 : Cond.classLink RL 25 (gEx 3) ∈ gG := gG_in 954 (by decide +kernel) (by decide +kernel)
theorem gl_965 : Cond.castable (gEx 3) (gEx 3) ∈ gNG := List.mem_filter.mpr ⟨List.mem_of_getElem? (i := 965) (by decide +kernel), by decide +kernel⟩
theorem gl_837 : Cond.codeWith yL_append cL_append 8 (some .int) [(0, 16, 19, 13)] ∈ gG := gG_in 837 (by decide +kernel) (by decide +kernel)
theorem gl_839 : Cond.methodLink RL 7 yX8_append ∈ gG := gG_in 839 (by decide +kernel) (by decide +kernel)
theorem gl_840 : Cond.instanceMethod yX8_append ∈ gG := gG_in 840 (by decide +kernel) (by decide +kernel)
theorem gl_841 : Cond.selects yX8_append.cls yX8_append yX8_append ∈ gG := gG_in 841 (by decide +kernel) (by decide +kernel)
theorem gl_92 : Cond.initialized RX8 ∈ gG := gG_in 92 (by decide +kernel) (by decide +kernel)
theorem gl_842 : Cond.code yX8_append cX8_append 7 (some .int) ∈ gG := gG_in 842 (by decide +kernel) (by decide +kernel)
theorem cvL_append : gCV RL 7 yX8_append cX8_append 7 (some .int) 5 := ⟨gl_839, gl_840, gl_841, gl_92, gl_842, by decide +kernel⟩
set_option maxHeartbeats 4000000 in
set_option maxRecDepth 100000 in
theorem wL_append {w : gW} {l : Launch} (hl9 : l.stackTraces = false) {x1 x2 x3 x4 x5 : Int} {M M1 : gMem} {res : Nat ⊕ Int} (hr1 : gRI x1) (hr2 : gRI x2) (hr3 : gRI x3) (hr4 : gRI x4) (hr5 : gRI x5) (hf : fX8_append gsh 1 x1 x2 x3 x4 x5 M = some (res, M1)) (he : ∀ e, res = .inl e → e = 1) : gLT w gN gRm l yL_append cL_append 8 [(0, 16, 19, 13)] 7 126 1 6 [.ref (w.1 + 1), .int (gi x1), .int (gi x2), .int (gi x3), .int (gi x4), .int (gi x5), .ref (w.1 + 864)] M (qThr 1 res) (gWm res M1) (∀ z, res = .inr z → gRI z) := by
  refine gLT.of hl9 (by decide +kernel) (Nat.le_of_ble_eq_true rfl) ?_
  intro p e s m below meth c hM tb rt lk hH ls hl
  have hM : gMD w p l s m ([.ref (w.1 + 1), .int (gi x1), .int (gi x2), .int (gi x3), .int (gi x4), .int (gi x5), .ref (w.1 + 864)] : List Value).toArray c cL_append 8 RL := hM
  have hl : lv_has ls 8 [(0, .ref (w.1 + 1)), (1, .int (gi x1)), (2, .int (gi x2)), (3, .int (gi x3)), (4, .int (gi x4)), (5, .int (gi x5)), (6, .ref (w.1 + 864))] := hl
  refine lv_aload hM.fx.1 hM.fx.2.1 dL_append_0 (lv_at hl 6 rfl) ?_
  refine lv_iconst (v := gi (0)) hM.fx.1 hM.fx.2.1 dL_append_2 rfl ?_
  refine lv_aload_n hM.fx.1 hM.fx.2.1 dL_append_3 rfl (lv_at hl 0 rfl) ?_
  refine lv_iload_n hM.fx.1 hM.fx.2.1 dL_append_4 rfl (lv_at hl 1 rfl) ?_
  refine lv_iload_n hM.fx.1 hM.fx.2.1 dL_append_5 rfl (lv_at hl 2 rfl) ?_
  refine lv_iload_n hM.fx.1 hM.fx.2.1 dL_append_6 rfl (lv_at hl 3 rfl) ?_
  refine lv_iload hM.fx.1 hM.fx.2.1 dL_append_7 (lv_at hl 4 rfl) ?_
  refine lv_iload hM.fx.1 hM.fx.2.1 dL_append_9 (lv_at hl 5 rfl) ?_
  have hr := r_runVD (e := e) (below := below) (meth := meth) (R := { frames := 7, cells := 1, slots := 6, locals := 126 }) (As := [.int (gi x1), .int (gi x2), .int (gi x3), .int (gi x4), .int (gi x5)]) (b := 1) (t := 8) (rest := [.int (gi 0), .ref (w.1 + 864)]) (cells := 0) (slots := 0) (ls := ls) hM hH cvL_append (mX8_append gLC_main hl9 (g := gsh) (by decide +kernel) hr1 hr2 hr3 hr4 hr5 hf) ⟨by decide, by decide, by decide +kernel⟩ (by decide) rfl rfl rfl hl.1 rfl (Nat.le_of_ble_eq_true rfl) ⟨Nat.le_of_ble_eq_true rfl, Nat.le_of_ble_eq_true rfl⟩ ⟨Nat.le_of_ble_eq_true rfl, Nat.le_of_ble_eq_true rfl⟩ dL_append_11
  cases res with
  | inl x =>
    obtain rfl := he x rfl
    refine r_goC (P := _) (oc := .inl (gEx 1)) hM hH rfl hr [] ⟨0, 16, 19, 13⟩ [] (by rw [tb]; rfl) (fun z hz => by cases hz) (by rfl) (by decide) gl_838 gl_848 (fun q H locs hH => ?_)
    refine lv_astore (lv' := [(7, .ref q), (0, .ref (w.1 + 1)), (1, .int (gi x1)), (2, .int (gi x2)), (3, .int (gi x3)), (4, .int (gi x4)), (5, .int (gi x5)), (6, .ref (w.1 + 864))]) hM.fx.1 hM.fx.2.1 dL_append_19 hl (by decide) rfl (fun ls hl => ?_)
    refine lv_iconst (v := gi (1)) hM.fx.1 hM.fx.2.1 dL_append_21 rfl ?_
    exact d_iret hM rt lk hH (fun z h => (by cases h)) ⟨Nat.le_of_ble_eq_true rfl, Nat.le_of_ble_eq_true rfl⟩ dL_append_22
  | inr x =>
    refine r_go1 hH rfl hr (fun hz H locs hH => ?_)
    have hz := hz x rfl
    refine r_i2l hM.fx hz dL_append_14 ?_
    refine r_last (t := 35) hM.fx hM.kf hH ⟨by decide, by decide, by decide +kernel⟩ ⟨by decide, by decide⟩ (gcR (k := 0) (by decide)) ⟨by decide, by decide⟩ (gRI_L hz) dL_append_15 (fun H locs hH => ?_)
    refine lv_goto (tgt := 23) hM.fx.1 hM.fx.2.1 dL_append_16 (by decide) ?_
    refine lv_iconst (v := gi (0)) hM.fx.1 hM.fx.2.1 dL_append_23 rfl ?_
    exact d_iret hM rt lk hH (fun z h => (by cases h; exact hz)) ⟨Nat.le_of_ble_eq_true rfl, Nat.le_of_ble_eq_true rfl⟩ dL_append_24
theorem gl_919 : Cond.codeWith yL_count cL_count 4 (some .int) [(0, 9, 12, 19)] ∈ gG := gG_in 919 (by decide +kernel) (by decide +kernel)
theorem gl_921 : Cond.methodLink RL 15 yX8_count ∈ gG := gG_in 921 (by decide +kernel) (by decide +kernel)
theorem gl_922 : Cond.instanceMethod yX8_count ∈ gG := gG_in 922 (by decide +kernel) (by decide +kernel)
theorem gl_923 : Cond.selects yX8_count.cls yX8_count yX8_count ∈ gG := gG_in 923 (by decide +kernel) (by decide +kernel)
theorem gl_924 : Cond.code yX8_count cX8_count 2 (some .int) ∈ gG := gG_in 924 (by decide +kernel) (by decide +kernel)
theorem cvL_count : gCV RL 15 yX8_count cX8_count 2 (some .int) 1 := ⟨gl_921, gl_922, gl_923, gl_92, gl_924, by decide +kernel⟩
set_option maxHeartbeats 4000000 in
set_option maxRecDepth 100000 in
theorem wL_count {w : gW} {l : Launch} (hl9 : l.stackTraces = false) {x1 : Int} {M : gMem} {res : Nat ⊕ Int} (hr1 : gRI x1) (hf : fX8_count gsh 1 x1 M = some res) (he : ∀ e, res = .inl e → e = 2) : gLT w gN gRm l yL_count cL_count 4 [(0, 9, 12, 19)] 7 170 1 6 [.ref (w.1 + 1), .int (gi x1), .ref (w.1 + 864)] M (qThr 2 res) (gWm res M) (∀ z, res = .inr z → gRI z) := by
  refine gLT.of hl9 (by decide +kernel) (Nat.le_of_ble_eq_true rfl) ?_
  intro p e s m below meth c hM tb rt lk hH ls hl
  have hM : gMD w p l s m ([.ref (w.1 + 1), .int (gi x1), .ref (w.1 + 864)] : List Value).toArray c cL_count 4 RL := hM
  have hl : lv_has ls 4 [(0, .ref (w.1 + 1)), (1, .int (gi x1)), (2, .ref (w.1 + 864))] := hl
  refine lv_aload_n hM.fx.1 hM.fx.2.1 dL_count_0 rfl (lv_at hl 2 rfl) ?_
  refine lv_iconst (v := gi (0)) hM.fx.1 hM.fx.2.1 dL_count_1 rfl ?_
  refine lv_aload_n hM.fx.1 hM.fx.2.1 dL_count_2 rfl (lv_at hl 0 rfl) ?_
  refine lv_iload_n hM.fx.1 hM.fx.2.1 dL_count_3 rfl (lv_at hl 1 rfl) ?_
  have hr := r_runVD (e := e) (below := below) (meth := meth) (R := { frames := 7, cells := 1, slots := 6, locals := 170 }) (As := [.int (gi x1)]) (b := 1) (t := 8) (rest := [.int (gi 0), .ref (w.1 + 864)]) (cells := 0) (slots := 0) (ls := ls) hM hH cvL_count (mX8_count gLC_main hl9 (g := gsh) (by decide +kernel) hr1 hf) ⟨by decide, by decide, by decide +kernel⟩ (by decide) rfl rfl rfl hl.1 rfl (Nat.le_of_ble_eq_true rfl) ⟨Nat.le_of_ble_eq_true rfl, Nat.le_of_ble_eq_true rfl⟩ ⟨Nat.le_of_ble_eq_true rfl, Nat.le_of_ble_eq_true rfl⟩ dL_count_4
  cases res with
  | inl x =>
    obtain rfl := he x rfl
    refine r_goC (P := _) (oc := .inl (gEx 2)) hM hH rfl hr [] ⟨0, 9, 12, 19⟩ [] (by rw [tb]; rfl) (fun z hz => by cases hz) (by rfl) (by decide) gl_920 gl_937 (fun q H locs hH => ?_)
    refine lv_astore_n (lv' := [(3, .ref q), (0, .ref (w.1 + 1)), (1, .int (gi x1)), (2, .ref (w.1 + 864))]) hM.fx.1 hM.fx.2.1 dL_count_12 rfl hl (by decide) rfl (fun ls hl => ?_)
    refine lv_iconst (v := gi (1)) hM.fx.1 hM.fx.2.1 dL_count_13 rfl ?_
    exact d_iret hM rt lk hH (fun z h => (by cases h)) ⟨Nat.le_of_ble_eq_true rfl, Nat.le_of_ble_eq_true rfl⟩ dL_count_14
  | inr x =>
    refine r_go1 hH rfl hr (fun hz H locs hH => ?_)
    have hz := hz x rfl
    refine r_i2l hM.fx hz dL_count_7 ?_
    refine r_last (t := 35) hM.fx hM.kf hH ⟨by decide, by decide, by decide +kernel⟩ ⟨by decide, by decide⟩ (gcR (k := 0) (by decide)) ⟨by decide, by decide⟩ (gRI_L hz) dL_count_8 (fun H locs hH => ?_)
    refine lv_goto (tgt := 15) hM.fx.1 hM.fx.2.1 dL_count_9 (by decide) ?_
    refine lv_iconst (v := gi (0)) hM.fx.1 hM.fx.2.1 dL_count_15 rfl ?_
    exact d_iret hM rt lk hH (fun z h => (by cases h; exact hz)) ⟨Nat.le_of_ble_eq_true rfl, Nat.le_of_ble_eq_true rfl⟩ dL_count_16
theorem gl_953 : Cond.codeWith yL_process cL_process 5 (some .int) [(0, 10, 13, 25), (0, 10, 17, 19)] ∈ gG := gG_in 953 (by decide +kernel) (by decide +kernel)
theorem gl_955 : Cond.methodLink RL 21 yX8_process ∈ gG := gG_in 955 (by decide +kernel) (by decide +kernel)
theorem gl_956 : Cond.instanceMethod yX8_process ∈ gG := gG_in 956 (by decide +kernel) (by decide +kernel)
theorem gl_957 : Cond.selects yX8_process.cls yX8_process yX8_process ∈ gG := gG_in 957 (by decide +kernel) (by decide +kernel)
theorem gl_958 : Cond.code yX8_process cX8_process 4 (some .int) ∈ gG := gG_in 958 (by decide +kernel) (by decide +kernel)
theorem cvL_process : gCV RL 21 yX8_process cX8_process 4 (some .int) 2 := ⟨gl_955, gl_956, gl_957, gl_92, gl_958, by decide +kernel⟩
set_option maxHeartbeats 4000000 in
set_option maxRecDepth 100000 in
theorem wL_process {w : gW} {l : Launch} (hl9 : l.stackTraces = false) {x1 x2 : Int} {M : gMem} {res : Nat ⊕ Int} (hr1 : gRI x1) (hr2 : gRI x2) (hf : fX8_process gsh 1 x1 x2 M = some res) (he : ∀ e, res = .inl e → e = 3 ∨ e = 2) : gLT w gN gRm l yL_process cL_process 5 [(0, 10, 13, 25), (0, 10, 17, 19)] 8 145 2 12 [.ref (w.1 + 1), .int (gi x1), .int (gi x2), .ref (w.1 + 864)] M (qThr 3 res) (gWm res M) (∀ z, res = .inr z → gRI z) := by
  refine gLT.of hl9 (by decide +kernel) (Nat.le_of_ble_eq_true rfl) ?_
  intro p e s m below meth c hM tb rt lk hH ls hl
  have hM : gMD w p l s m ([.ref (w.1 + 1), .int (gi x1), .int (gi x2), .ref (w.1 + 864)] : List Value).toArray c cL_process 5 RL := hM
  have hl : lv_has ls 5 [(0, .ref (w.1 + 1)), (1, .int (gi x1)), (2, .int (gi x2)), (3, .ref (w.1 + 864))] := hl
  refine lv_aload_n hM.fx.1 hM.fx.2.1 dL_process_0 rfl (lv_at hl 3 rfl) ?_
  refine lv_iconst (v := gi (0)) hM.fx.1 hM.fx.2.1 dL_process_1 rfl ?_
  refine lv_aload_n hM.fx.1 hM.fx.2.1 dL_process_2 rfl (lv_at hl 0 rfl) ?_
  refine lv_iload_n hM.fx.1 hM.fx.2.1 dL_process_3 rfl (lv_at hl 1 rfl) ?_
  refine lv_iload_n hM.fx.1 hM.fx.2.1 dL_process_4 rfl (lv_at hl 2 rfl) ?_
  have hr := r_runVD (e := e) (below := below) (meth := meth) (R := { frames := 8, cells := 2, slots := 12, locals := 145 }) (As := [.int (gi x1), .int (gi x2)]) (b := 1) (t := 8) (rest := [.int (gi 0), .ref (w.1 + 864)]) (cells := 0) (slots := 0) (ls := ls) hM hH cvL_process (mX8_process gLC_main hl9 (g := gsh) (by decide +kernel) hr1 hr2 hf) ⟨by decide, by decide, by decide +kernel⟩ (by decide) rfl rfl rfl hl.1 rfl (Nat.le_of_ble_eq_true rfl) ⟨Nat.le_of_ble_eq_true rfl, Nat.le_of_ble_eq_true rfl⟩ ⟨Nat.le_of_ble_eq_true rfl, Nat.le_of_ble_eq_true rfl⟩ dL_process_5
  cases res with
  | inl x =>
    rcases he x rfl with rfl | rfl
    · skip
      refine r_goC (P := _) (oc := .inl (gEx 3)) hM hH rfl hr [] ⟨0, 10, 13, 25⟩ [⟨0, 10, 17, 19⟩] (by rw [tb]; rfl) (fun z hz => by cases hz) (by rfl) (by decide) gl_954 gl_965 (fun q H locs hH => ?_)
      refine lv_astore (lv' := [(4, .ref q), (0, .ref (w.1 + 1)), (1, .int (gi x1)), (2, .int (gi x2)), (3, .ref (w.1 + 864))]) hM.fx.1 hM.fx.2.1 dL_process_13 hl (by decide) rfl (fun ls hl => ?_)
      refine lv_iconst (v := gi (1)) hM.fx.1 hM.fx.2.1 dL_process_15 rfl ?_
      exact d_iret hM rt lk hH (fun z h => (by cases h)) ⟨Nat.le_of_ble_eq_true rfl, Nat.le_of_ble_eq_true rfl⟩ dL_process_16
    · skip
      refine r_goC (P := _) (oc := .inl (gEx 2)) hM hH rfl hr [⟨0, 10, 13, 25⟩] ⟨0, 10, 17, 19⟩ [] (by rw [tb]; rfl) (fun z hz => by
          rcases List.mem_singleton.mp hz with rfl
          exact ⟨by decide, gEx 3, gl_954, hM.nc.1⟩) (by rfl) (by decide) gl_920 gl_937 (fun q H locs hH => ?_)
      refine lv_astore (lv' := [(4, .ref q), (0, .ref (w.1 + 1)), (1, .int (gi x1)), (2, .int (gi x2)), (3, .ref (w.1 + 864))]) hM.fx.1 hM.fx.2.1 dL_process_17 hl (by decide) rfl (fun ls hl => ?_)
      refine lv_iconst (v := gi (2)) hM.fx.1 hM.fx.2.1 dL_process_19 rfl ?_
      exact d_iret hM rt lk hH (fun z h => (by cases h)) ⟨Nat.le_of_ble_eq_true rfl, Nat.le_of_ble_eq_true rfl⟩ dL_process_20
  | inr x =>
    refine r_go1 hH rfl hr (fun hz H locs hH => ?_)
    have hz := hz x rfl
    refine r_i2l hM.fx hz dL_process_8 ?_
    refine r_last (t := 35) hM.fx hM.kf hH ⟨by decide, by decide, by decide +kernel⟩ ⟨by decide, by decide⟩ (gcR (k := 0) (by decide)) ⟨by decide, by decide⟩ (gRI_L hz) dL_process_9 (fun H locs hH => ?_)
    refine lv_goto (tgt := 21) hM.fx.1 hM.fx.2.1 dL_process_10 (by decide) ?_
    refine lv_iconst (v := gi (0)) hM.fx.1 hM.fx.2.1 dL_process_21 rfl ?_
    exact d_iret hM rt lk hH (fun z h => (by cases h; exact hz)) ⟨Nat.le_of_ble_eq_true rfl, Nat.le_of_ble_eq_true rfl⟩ dL_process_22
theorem gl_982 : Cond.codeWith yL_stack cL_stack 5 (some .int) [(0, 10, 13, 25), (0, 10, 17, 19)] ∈ gG := gG_in 982 (by decide +kernel) (by decide +kernel)
theorem gl_983 : Cond.methodLink RL 27 yX8_stack ∈ gG := gG_in 983 (by decide +kernel) (by decide +kernel)
theorem gl_984 : Cond.instanceMethod yX8_stack ∈ gG := gG_in 984 (by decide +kernel) (by decide +kernel)
theorem gl_985 : Cond.selects yX8_stack.cls yX8_stack yX8_stack ∈ gG := gG_in 985 (by decide +kernel) (by decide +kernel)
theorem gl_986 : Cond.code yX8_stack cX8_stack 4 (some .int) ∈ gG := gG_in 986 (by decide +kernel) (by decide +kernel)
theorem cvL_stack : gCV RL 27 yX8_stack cX8_stack 4 (some .int) 2 := ⟨gl_983, gl_984, gl_985, gl_92, gl_986, by decide +kernel⟩
set_option maxHeartbeats 4000000 in
set_option maxRecDepth 100000 in
theorem wL_stack {w : gW} {l : Launch} (hl9 : l.stackTraces = false) {x1 x2 : Int} {M : gMem} {res : Nat ⊕ Int} (hr1 : gRI x1) (hr2 : gRI x2) (hf : fX8_stack gsh 1 x1 x2 M = some res) (he : ∀ e, res = .inl e → e = 3 ∨ e = 2) : gLT w gN gRm l yL_stack cL_stack 5 [(0, 10, 13, 25), (0, 10, 17, 19)] 8 145 2 12 [.ref (w.1 + 1), .int (gi x1), .int (gi x2), .ref (w.1 + 864)] M (qThr 3 res) (gWm res M) (∀ z, res = .inr z → gRI z) := by
  refine gLT.of hl9 (by decide +kernel) (Nat.le_of_ble_eq_true rfl) ?_
  intro p e s m below meth c hM tb rt lk hH ls hl
  have hM : gMD w p l s m ([.ref (w.1 + 1), .int (gi x1), .int (gi x2), .ref (w.1 + 864)] : List Value).toArray c cL_stack 5 RL := hM
  have hl : lv_has ls 5 [(0, .ref (w.1 + 1)), (1, .int (gi x1)), (2, .int (gi x2)), (3, .ref (w.1 + 864))] := hl
  refine lv_aload_n hM.fx.1 hM.fx.2.1 dL_stack_0 rfl (lv_at hl 3 rfl) ?_
  refine lv_iconst (v := gi (0)) hM.fx.1 hM.fx.2.1 dL_stack_1 rfl ?_
  refine lv_aload_n hM.fx.1 hM.fx.2.1 dL_stack_2 rfl (lv_at hl 0 rfl) ?_
  refine lv_iload_n hM.fx.1 hM.fx.2.1 dL_stack_3 rfl (lv_at hl 1 rfl) ?_
  refine lv_iload_n hM.fx.1 hM.fx.2.1 dL_stack_4 rfl (lv_at hl 2 rfl) ?_
  have hr := r_runVD (e := e) (below := below) (meth := meth) (R := { frames := 8, cells := 2, slots := 12, locals := 145 }) (As := [.int (gi x1), .int (gi x2)]) (b := 1) (t := 8) (rest := [.int (gi 0), .ref (w.1 + 864)]) (cells := 0) (slots := 0) (ls := ls) hM hH cvL_stack (mX8_stack gLC_main hl9 (g := gsh) (by decide +kernel) hr1 hr2 hf) ⟨by decide, by decide, by decide +kernel⟩ (by decide) rfl rfl rfl hl.1 rfl (Nat.le_of_ble_eq_true rfl) ⟨Nat.le_of_ble_eq_true rfl, Nat.le_of_ble_eq_true rfl⟩ ⟨Nat.le_of_ble_eq_true rfl, Nat.le_of_ble_eq_true rfl⟩ dL_stack_5
  cases res with
  | inl x =>
    rcases he x rfl with rfl | rfl
    · skip
      refine r_goC (P := _) (oc := .inl (gEx 3)) hM hH rfl hr [] ⟨0, 10, 13, 25⟩ [⟨0, 10, 17, 19⟩] (by rw [tb]; rfl) (fun z hz => by cases hz) (by rfl) (by decide) gl_954 gl_965 (fun q H locs hH => ?_)
      refine lv_astore (lv' := [(4, .ref q), (0, .ref (w.1 + 1)), (1, .int (gi x1)), (2, .int (gi x2)), (3, .ref (w.1 + 864))]) hM.fx.1 hM.fx.2.1 dL_stack_13 hl (by decide) rfl (fun ls hl => ?_)
      refine lv_iconst (v := gi (1)) hM.fx.1 hM.fx.2.1 dL_stack_15 rfl ?_
      exact d_iret hM rt lk hH (fun z h => (by cases h)) ⟨Nat.le_of_ble_eq_true rfl, Nat.le_of_ble_eq_true rfl⟩ dL_stack_16
    · skip
      refine r_goC (P := _) (oc := .inl (gEx 2)) hM hH rfl hr [⟨0, 10, 13, 25⟩] ⟨0, 10, 17, 19⟩ [] (by rw [tb]; rfl) (fun z hz => by
          rcases List.mem_singleton.mp hz with rfl
          exact ⟨by decide, gEx 3, gl_954, hM.nc.1⟩) (by rfl) (by decide) gl_920 gl_937 (fun q H locs hH => ?_)
      refine lv_astore (lv' := [(4, .ref q), (0, .ref (w.1 + 1)), (1, .int (gi x1)), (2, .int (gi x2)), (3, .ref (w.1 + 864))]) hM.fx.1 hM.fx.2.1 dL_stack_17 hl (by decide) rfl (fun ls hl => ?_)
      refine lv_iconst (v := gi (2)) hM.fx.1 hM.fx.2.1 dL_stack_19 rfl ?_
      exact d_iret hM rt lk hH (fun z h => (by cases h)) ⟨Nat.le_of_ble_eq_true rfl, Nat.le_of_ble_eq_true rfl⟩ dL_stack_20
  | inr x =>
    refine r_go1 hH rfl hr (fun hz H locs hH => ?_)
    have hz := hz x rfl
    refine r_i2l hM.fx hz dL_stack_8 ?_
    refine r_last (t := 35) hM.fx hM.kf hH ⟨by decide, by decide, by decide +kernel⟩ ⟨by decide, by decide⟩ (gcR (k := 0) (by decide)) ⟨by decide, by decide⟩ (gRI_L hz) dL_stack_9 (fun H locs hH => ?_)
    refine lv_goto (tgt := 21) hM.fx.1 hM.fx.2.1 dL_stack_10 (by decide) ?_
    refine lv_iconst (v := gi (0)) hM.fx.1 hM.fx.2.1 dL_stack_21 rfl ?_
    exact d_iret hM rt lk hH (fun z h => (by cases h; exact hz)) ⟨Nat.le_of_ble_eq_true rfl, Nat.le_of_ble_eq_true rfl⟩ dL_stack_22
theorem gl_995 : Cond.codeWith yL_number cL_number 5 (some .int) [(0, 10, 13, 25)] ∈ gG := gG_in 995 (by decide +kernel) (by decide +kernel)
theorem gl_996 : Cond.methodLink RL 30 yX8_number ∈ gG := gG_in 996 (by decide +kernel) (by decide +kernel)
theorem gl_997 : Cond.instanceMethod yX8_number ∈ gG := gG_in 997 (by decide +kernel) (by decide +kernel)
theorem gl_998 : Cond.selects yX8_number.cls yX8_number yX8_number ∈ gG := gG_in 998 (by decide +kernel) (by decide +kernel)
theorem gl_999 : Cond.code yX8_number cX8_number 3 (some .int) ∈ gG := gG_in 999 (by decide +kernel) (by decide +kernel)
theorem cvL_number : gCV RL 30 yX8_number cX8_number 3 (some .int) 2 := ⟨gl_996, gl_997, gl_998, gl_92, gl_999, by decide +kernel⟩
set_option maxHeartbeats 4000000 in
set_option maxRecDepth 100000 in
theorem wL_number {w : gW} {l : Launch} (hl9 : l.stackTraces = false) {x1 x2 : Int} {M : gMem} {res : Nat ⊕ Int} (hr1 : gRI x1) (hr2 : gRI x2) (hf : fX8_number gsh 1 x1 x2 M = some res) (he : ∀ e, res = .inl e → e = 3) : gLT w gN gRm l yL_number cL_number 5 [(0, 10, 13, 25)] 8 144 1 6 [.ref (w.1 + 1), .int (gi x1), .int (gi x2), .ref (w.1 + 864)] M (qThr 3 res) (gWm res M) (∀ z, res = .inr z → gRI z) := by
  refine gLT.of hl9 (by decide +kernel) (Nat.le_of_ble_eq_true rfl) ?_
  intro p e s m below meth c hM tb rt lk hH ls hl
  have hM : gMD w p l s m ([.ref (w.1 + 1), .int (gi x1), .int (gi x2), .ref (w.1 + 864)] : List Value).toArray c cL_number 5 RL := hM
  have hl : lv_has ls 5 [(0, .ref (w.1 + 1)), (1, .int (gi x1)), (2, .int (gi x2)), (3, .ref (w.1 + 864))] := hl
  refine lv_aload_n hM.fx.1 hM.fx.2.1 dL_number_0 rfl (lv_at hl 3 rfl) ?_
  refine lv_iconst (v := gi (0)) hM.fx.1 hM.fx.2.1 dL_number_1 rfl ?_
  refine lv_aload_n hM.fx.1 hM.fx.2.1 dL_number_2 rfl (lv_at hl 0 rfl) ?_
  refine lv_iload_n hM.fx.1 hM.fx.2.1 dL_number_3 rfl (lv_at hl 1 rfl) ?_
  refine lv_iload_n hM.fx.1 hM.fx.2.1 dL_number_4 rfl (lv_at hl 2 rfl) ?_
  have hr := r_runVD (e := e) (below := below) (meth := meth) (R := { frames := 8, cells := 1, slots := 6, locals := 144 }) (As := [.int (gi x1), .int (gi x2)]) (b := 1) (t := 8) (rest := [.int (gi 0), .ref (w.1 + 864)]) (cells := 0) (slots := 0) (ls := ls) hM hH cvL_number (mX8_number gLC_main hl9 (g := gsh) (by decide +kernel) hr1 hr2 hf) ⟨by decide, by decide, by decide +kernel⟩ (by decide) rfl rfl rfl hl.1 rfl (Nat.le_of_ble_eq_true rfl) ⟨Nat.le_of_ble_eq_true rfl, Nat.le_of_ble_eq_true rfl⟩ ⟨Nat.le_of_ble_eq_true rfl, Nat.le_of_ble_eq_true rfl⟩ dL_number_5
  cases res with
  | inl x =>
    obtain rfl := he x rfl
    refine r_goC (P := _) (oc := .inl (gEx 3)) hM hH rfl hr [] ⟨0, 10, 13, 25⟩ [] (by rw [tb]; rfl) (fun z hz => by cases hz) (by rfl) (by decide) gl_954 gl_965 (fun q H locs hH => ?_)
    refine lv_astore (lv' := [(4, .ref q), (0, .ref (w.1 + 1)), (1, .int (gi x1)), (2, .int (gi x2)), (3, .ref (w.1 + 864))]) hM.fx.1 hM.fx.2.1 dL_number_13 hl (by decide) rfl (fun ls hl => ?_)
    refine lv_iconst (v := gi (1)) hM.fx.1 hM.fx.2.1 dL_number_15 rfl ?_
    exact d_iret hM rt lk hH (fun z h => (by cases h)) ⟨Nat.le_of_ble_eq_true rfl, Nat.le_of_ble_eq_true rfl⟩ dL_number_16
  | inr x =>
    refine r_go1 hH rfl hr (fun hz H locs hH => ?_)
    have hz := hz x rfl
    refine r_i2l hM.fx hz dL_number_8 ?_
    refine r_last (t := 35) hM.fx hM.kf hH ⟨by decide, by decide, by decide +kernel⟩ ⟨by decide, by decide⟩ (gcR (k := 0) (by decide)) ⟨by decide, by decide⟩ (gRI_L hz) dL_number_9 (fun H locs hH => ?_)
    refine lv_goto (tgt := 17) hM.fx.1 hM.fx.2.1 dL_number_10 (by decide) ?_
    refine lv_iconst (v := gi (0)) hM.fx.1 hM.fx.2.1 dL_number_17 rfl ?_
    exact d_iret hM rt lk hH (fun z h => (by cases h; exact hz)) ⟨Nat.le_of_ble_eq_true rfl, Nat.le_of_ble_eq_true rfl⟩ dL_number_18
theorem gl_1003 : Cond.codeWith yL_slot cL_slot 4 (some .int) [(0, 9, 12, 25)] ∈ gG := gG_in 1003 (by decide +kernel) (by decide +kernel)
theorem gl_1004 : Cond.methodLink RL 33 yX8_slot ∈ gG := gG_in 1004 (by decide +kernel) (by decide +kernel)
theorem gl_1005 : Cond.instanceMethod yX8_slot ∈ gG := gG_in 1005 (by decide +kernel) (by decide +kernel)
theorem gl_1006 : Cond.selects yX8_slot.cls yX8_slot yX8_slot ∈ gG := gG_in 1006 (by decide +kernel) (by decide +kernel)
theorem gl_1007 : Cond.code yX8_slot cX8_slot 2 (some .int) ∈ gG := gG_in 1007 (by decide +kernel) (by decide +kernel)
theorem cvL_slot : gCV RL 33 yX8_slot cX8_slot 2 (some .int) 1 := ⟨gl_1004, gl_1005, gl_1006, gl_92, gl_1007, by decide +kernel⟩
set_option maxHeartbeats 4000000 in
set_option maxRecDepth 100000 in
theorem wL_slot {w : gW} {l : Launch} (hl9 : l.stackTraces = false) {x1 : Int} {M : gMem} {res : Nat ⊕ Int} (hr1 : gRI x1) (hf : fX8_slot gsh 1 x1 M = some res) (he : ∀ e, res = .inl e → e = 3) : gLT w gN gRm l yL_slot cL_slot 4 [(0, 9, 12, 25)] 8 142 1 6 [.ref (w.1 + 1), .int (gi x1), .ref (w.1 + 864)] M (qThr 3 res) (gWm res M) (∀ z, res = .inr z → gRI z) := by
  refine gLT.of hl9 (by decide +kernel) (Nat.le_of_ble_eq_true rfl) ?_
  intro p e s m below meth c hM tb rt lk hH ls hl
  have hM : gMD w p l s m ([.ref (w.1 + 1), .int (gi x1), .ref (w.1 + 864)] : List Value).toArray c cL_slot 4 RL := hM
  have hl : lv_has ls 4 [(0, .ref (w.1 + 1)), (1, .int (gi x1)), (2, .ref (w.1 + 864))] := hl
  refine lv_aload_n hM.fx.1 hM.fx.2.1 dL_slot_0 rfl (lv_at hl 2 rfl) ?_
  refine lv_iconst (v := gi (0)) hM.fx.1 hM.fx.2.1 dL_slot_1 rfl ?_
  refine lv_aload_n hM.fx.1 hM.fx.2.1 dL_slot_2 rfl (lv_at hl 0 rfl) ?_
  refine lv_iload_n hM.fx.1 hM.fx.2.1 dL_slot_3 rfl (lv_at hl 1 rfl) ?_
  have hr := r_runVD (e := e) (below := below) (meth := meth) (R := { frames := 8, cells := 1, slots := 6, locals := 142 }) (As := [.int (gi x1)]) (b := 1) (t := 8) (rest := [.int (gi 0), .ref (w.1 + 864)]) (cells := 0) (slots := 0) (ls := ls) hM hH cvL_slot (mX8_slot gLC_main hl9 (g := gsh) (by decide +kernel) hr1 hf) ⟨by decide, by decide, by decide +kernel⟩ (by decide) rfl rfl rfl hl.1 rfl (Nat.le_of_ble_eq_true rfl) ⟨Nat.le_of_ble_eq_true rfl, Nat.le_of_ble_eq_true rfl⟩ ⟨Nat.le_of_ble_eq_true rfl, Nat.le_of_ble_eq_true rfl⟩ dL_slot_4
  cases res with
  | inl x =>
    obtain rfl := he x rfl
    refine r_goC (P := _) (oc := .inl (gEx 3)) hM hH rfl hr [] ⟨0, 9, 12, 25⟩ [] (by rw [tb]; rfl) (fun z hz => by cases hz) (by rfl) (by decide) gl_954 gl_965 (fun q H locs hH => ?_)
    refine lv_astore_n (lv' := [(3, .ref q), (0, .ref (w.1 + 1)), (1, .int (gi x1)), (2, .ref (w.1 + 864))]) hM.fx.1 hM.fx.2.1 dL_slot_12 rfl hl (by decide) rfl (fun ls hl => ?_)
    refine lv_iconst (v := gi (1)) hM.fx.1 hM.fx.2.1 dL_slot_13 rfl ?_
    exact d_iret hM rt lk hH (fun z h => (by cases h)) ⟨Nat.le_of_ble_eq_true rfl, Nat.le_of_ble_eq_true rfl⟩ dL_slot_14
  | inr x =>
    refine r_go1 hH rfl hr (fun hz H locs hH => ?_)
    have hz := hz x rfl
    refine r_i2l hM.fx hz dL_slot_7 ?_
    refine r_last (t := 35) hM.fx hM.kf hH ⟨by decide, by decide, by decide +kernel⟩ ⟨by decide, by decide⟩ (gcR (k := 0) (by decide)) ⟨by decide, by decide⟩ (gRI_L hz) dL_slot_8 (fun H locs hH => ?_)
    refine lv_goto (tgt := 15) hM.fx.1 hM.fx.2.1 dL_slot_9 (by decide) ?_
    refine lv_iconst (v := gi (0)) hM.fx.1 hM.fx.2.1 dL_slot_15 rfl ?_
    exact d_iret hM rt lk hH (fun z h => (by cases h; exact hz)) ⟨Nat.le_of_ble_eq_true rfl, Nat.le_of_ble_eq_true rfl⟩ dL_slot_16
theorem gl_1020 : Cond.codeWith yL_command cL_command 6 (some .int) [(0, 12, 15, 25), (0, 12, 19, 19)] ∈ gG := gG_in 1020 (by decide +kernel) (by decide +kernel)
theorem gl_1021 : Cond.methodLink RL 36 yX8_command ∈ gG := gG_in 1021 (by decide +kernel) (by decide +kernel)
theorem gl_1022 : Cond.instanceMethod yX8_command ∈ gG := gG_in 1022 (by decide +kernel) (by decide +kernel)
theorem gl_1023 : Cond.selects yX8_command.cls yX8_command yX8_command ∈ gG := gG_in 1023 (by decide +kernel) (by decide +kernel)
theorem gl_1024 : Cond.code yX8_command cX8_command 5 (some .int) ∈ gG := gG_in 1024 (by decide +kernel) (by decide +kernel)
theorem cvL_command : gCV RL 36 yX8_command cX8_command 5 (some .int) 3 := ⟨gl_1021, gl_1022, gl_1023, gl_92, gl_1024, by decide +kernel⟩
set_option maxHeartbeats 4000000 in
set_option maxRecDepth 100000 in
theorem wL_command {w : gW} {l : Launch} (hl9 : l.stackTraces = false) {x1 x2 x3 : Int} {M : gMem} {res : Nat ⊕ Int} (hr1 : gRI x1) (hr2 : gRI x2) (hr3 : gRI x3) (hf : fX8_command gsh 1 x1 x2 x3 M = some res) (he : ∀ e, res = .inl e → e = 3 ∨ e = 2) : gLT w gN gRm l yL_command cL_command 6 [(0, 12, 15, 25), (0, 12, 19, 19)] 8 146 3 18 [.ref (w.1 + 1), .int (gi x1), .int (gi x2), .int (gi x3), .ref (w.1 + 864)] M (qThr 3 res) (gWm res M) (∀ z, res = .inr z → gRI z) := by
  refine gLT.of hl9 (by decide +kernel) (Nat.le_of_ble_eq_true rfl) ?_
  intro p e s m below meth c hM tb rt lk hH ls hl
  have hM : gMD w p l s m ([.ref (w.1 + 1), .int (gi x1), .int (gi x2), .int (gi x3), .ref (w.1 + 864)] : List Value).toArray c cL_command 6 RL := hM
  have hl : lv_has ls 6 [(0, .ref (w.1 + 1)), (1, .int (gi x1)), (2, .int (gi x2)), (3, .int (gi x3)), (4, .ref (w.1 + 864))] := hl
  refine lv_aload hM.fx.1 hM.fx.2.1 dL_command_0 (lv_at hl 4 rfl) ?_
  refine lv_iconst (v := gi (0)) hM.fx.1 hM.fx.2.1 dL_command_2 rfl ?_
  refine lv_aload_n hM.fx.1 hM.fx.2.1 dL_command_3 rfl (lv_at hl 0 rfl) ?_
  refine lv_iload_n hM.fx.1 hM.fx.2.1 dL_command_4 rfl (lv_at hl 1 rfl) ?_
  refine lv_iload_n hM.fx.1 hM.fx.2.1 dL_command_5 rfl (lv_at hl 2 rfl) ?_
  refine lv_iload_n hM.fx.1 hM.fx.2.1 dL_command_6 rfl (lv_at hl 3 rfl) ?_
  have hr := r_runVD (e := e) (below := below) (meth := meth) (R := { frames := 8, cells := 3, slots := 18, locals := 146 }) (As := [.int (gi x1), .int (gi x2), .int (gi x3)]) (b := 1) (t := 8) (rest := [.int (gi 0), .ref (w.1 + 864)]) (cells := 0) (slots := 0) (ls := ls) hM hH cvL_command (mX8_command gLC_main hl9 (g := gsh) (by decide +kernel) hr1 hr2 hr3 hf) ⟨by decide, by decide, by decide +kernel⟩ (by decide) rfl rfl rfl hl.1 rfl (Nat.le_of_ble_eq_true rfl) ⟨Nat.le_of_ble_eq_true rfl, Nat.le_of_ble_eq_true rfl⟩ ⟨Nat.le_of_ble_eq_true rfl, Nat.le_of_ble_eq_true rfl⟩ dL_command_7
  cases res with
  | inl x =>
    rcases he x rfl with rfl | rfl
    · skip
      refine r_goC (P := _) (oc := .inl (gEx 3)) hM hH rfl hr [] ⟨0, 12, 15, 25⟩ [⟨0, 12, 19, 19⟩] (by rw [tb]; rfl) (fun z hz => by cases hz) (by rfl) (by decide) gl_954 gl_965 (fun q H locs hH => ?_)
      refine lv_astore (lv' := [(5, .ref q), (0, .ref (w.1 + 1)), (1, .int (gi x1)), (2, .int (gi x2)), (3, .int (gi x3)), (4, .ref (w.1 + 864))]) hM.fx.1 hM.fx.2.1 dL_command_15 hl (by decide) rfl (fun ls hl => ?_)
      refine lv_iconst (v := gi (1)) hM.fx.1 hM.fx.2.1 dL_command_17 rfl ?_
      exact d_iret hM rt lk hH (fun z h => (by cases h)) ⟨Nat.le_of_ble_eq_true rfl, Nat.le_of_ble_eq_true rfl⟩ dL_command_18
    · skip
      refine r_goC (P := _) (oc := .inl (gEx 2)) hM hH rfl hr [⟨0, 12, 15, 25⟩] ⟨0, 12, 19, 19⟩ [] (by rw [tb]; rfl) (fun z hz => by
          rcases List.mem_singleton.mp hz with rfl
          exact ⟨by decide, gEx 3, gl_954, hM.nc.1⟩) (by rfl) (by decide) gl_920 gl_937 (fun q H locs hH => ?_)
      refine lv_astore (lv' := [(5, .ref q), (0, .ref (w.1 + 1)), (1, .int (gi x1)), (2, .int (gi x2)), (3, .int (gi x3)), (4, .ref (w.1 + 864))]) hM.fx.1 hM.fx.2.1 dL_command_19 hl (by decide) rfl (fun ls hl => ?_)
      refine lv_iconst (v := gi (2)) hM.fx.1 hM.fx.2.1 dL_command_21 rfl ?_
      exact d_iret hM rt lk hH (fun z h => (by cases h)) ⟨Nat.le_of_ble_eq_true rfl, Nat.le_of_ble_eq_true rfl⟩ dL_command_22
  | inr x =>
    refine r_go1 hH rfl hr (fun hz H locs hH => ?_)
    have hz := hz x rfl
    refine r_i2l hM.fx hz dL_command_10 ?_
    refine r_last (t := 35) hM.fx hM.kf hH ⟨by decide, by decide, by decide +kernel⟩ ⟨by decide, by decide⟩ (gcR (k := 0) (by decide)) ⟨by decide, by decide⟩ (gRI_L hz) dL_command_11 (fun H locs hH => ?_)
    refine lv_goto (tgt := 23) hM.fx.1 hM.fx.2.1 dL_command_12 (by decide) ?_
    refine lv_iconst (v := gi (0)) hM.fx.1 hM.fx.2.1 dL_command_23 rfl ?_
    exact d_iret hM rt lk hH (fun z h => (by cases h; exact hz)) ⟨Nat.le_of_ble_eq_true rfl, Nat.le_of_ble_eq_true rfl⟩ dL_command_24
theorem gl_1031 : Cond.codeWith yL_said cL_said 5 (some .int) [(0, 10, 13, 25)] ∈ gG := gG_in 1031 (by decide +kernel) (by decide +kernel)
theorem gl_1032 : Cond.methodLink RL 40 yX8_said ∈ gG := gG_in 1032 (by decide +kernel) (by decide +kernel)
theorem gl_1033 : Cond.instanceMethod yX8_said ∈ gG := gG_in 1033 (by decide +kernel) (by decide +kernel)
theorem gl_1034 : Cond.selects yX8_said.cls yX8_said yX8_said ∈ gG := gG_in 1034 (by decide +kernel) (by decide +kernel)
theorem gl_1035 : Cond.code yX8_said cX8_said 3 (some .int) ∈ gG := gG_in 1035 (by decide +kernel) (by decide +kernel)
theorem cvL_said : gCV RL 40 yX8_said cX8_said 3 (some .int) 2 := ⟨gl_1032, gl_1033, gl_1034, gl_92, gl_1035, by decide +kernel⟩
set_option maxHeartbeats 4000000 in
set_option maxRecDepth 100000 in
theorem wL_said {w : gW} {l : Launch} (hl9 : l.stackTraces = false) {x1 x2 : Int} {M : gMem} {res : Nat ⊕ Int} (hr1 : gRI x1) (hr2 : gRI x2) (hf : fX8_said gsh 1 x1 x2 M = some res) (he : ∀ e, res = .inl e → e = 3) : gLT w gN gRm l yL_said cL_said 5 [(0, 10, 13, 25)] 8 144 1 6 [.ref (w.1 + 1), .int (gi x1), .int (gi x2), .ref (w.1 + 864)] M (qThr 3 res) (gWm res M) (∀ z, res = .inr z → gRI z) := by
  refine gLT.of hl9 (by decide +kernel) (Nat.le_of_ble_eq_true rfl) ?_
  intro p e s m below meth c hM tb rt lk hH ls hl
  have hM : gMD w p l s m ([.ref (w.1 + 1), .int (gi x1), .int (gi x2), .ref (w.1 + 864)] : List Value).toArray c cL_said 5 RL := hM
  have hl : lv_has ls 5 [(0, .ref (w.1 + 1)), (1, .int (gi x1)), (2, .int (gi x2)), (3, .ref (w.1 + 864))] := hl
  refine lv_aload_n hM.fx.1 hM.fx.2.1 dL_said_0 rfl (lv_at hl 3 rfl) ?_
  refine lv_iconst (v := gi (0)) hM.fx.1 hM.fx.2.1 dL_said_1 rfl ?_
  refine lv_aload_n hM.fx.1 hM.fx.2.1 dL_said_2 rfl (lv_at hl 0 rfl) ?_
  refine lv_iload_n hM.fx.1 hM.fx.2.1 dL_said_3 rfl (lv_at hl 1 rfl) ?_
  refine lv_iload_n hM.fx.1 hM.fx.2.1 dL_said_4 rfl (lv_at hl 2 rfl) ?_
  have hr := r_runVD (e := e) (below := below) (meth := meth) (R := { frames := 8, cells := 1, slots := 6, locals := 144 }) (As := [.int (gi x1), .int (gi x2)]) (b := 1) (t := 8) (rest := [.int (gi 0), .ref (w.1 + 864)]) (cells := 0) (slots := 0) (ls := ls) hM hH cvL_said (mX8_said gLC_main hl9 (g := gsh) (by decide +kernel) hr1 hr2 hf) ⟨by decide, by decide, by decide +kernel⟩ (by decide) rfl rfl rfl hl.1 rfl (Nat.le_of_ble_eq_true rfl) ⟨Nat.le_of_ble_eq_true rfl, Nat.le_of_ble_eq_true rfl⟩ ⟨Nat.le_of_ble_eq_true rfl, Nat.le_of_ble_eq_true rfl⟩ dL_said_5
  cases res with
  | inl x =>
    obtain rfl := he x rfl
    refine r_goC (P := _) (oc := .inl (gEx 3)) hM hH rfl hr [] ⟨0, 10, 13, 25⟩ [] (by rw [tb]; rfl) (fun z hz => by cases hz) (by rfl) (by decide) gl_954 gl_965 (fun q H locs hH => ?_)
    refine lv_astore (lv' := [(4, .ref q), (0, .ref (w.1 + 1)), (1, .int (gi x1)), (2, .int (gi x2)), (3, .ref (w.1 + 864))]) hM.fx.1 hM.fx.2.1 dL_said_13 hl (by decide) rfl (fun ls hl => ?_)
    refine lv_iconst (v := gi (1)) hM.fx.1 hM.fx.2.1 dL_said_15 rfl ?_
    exact d_iret hM rt lk hH (fun z h => (by cases h)) ⟨Nat.le_of_ble_eq_true rfl, Nat.le_of_ble_eq_true rfl⟩ dL_said_16
  | inr x =>
    refine r_go1 hH rfl hr (fun hz H locs hH => ?_)
    have hz := hz x rfl
    refine r_i2l hM.fx hz dL_said_8 ?_
    refine r_last (t := 35) hM.fx hM.kf hH ⟨by decide, by decide, by decide +kernel⟩ ⟨by decide, by decide⟩ (gcR (k := 0) (by decide)) ⟨by decide, by decide⟩ (gRI_L hz) dL_said_9 (fun H locs hH => ?_)
    refine lv_goto (tgt := 17) hM.fx.1 hM.fx.2.1 dL_said_10 (by decide) ?_
    refine lv_iconst (v := gi (0)) hM.fx.1 hM.fx.2.1 dL_said_17 rfl ?_
    exact d_iret hM rt lk hH (fun z h => (by cases h; exact hz)) ⟨Nat.le_of_ble_eq_true rfl, Nat.le_of_ble_eq_true rfl⟩ dL_said_18
theorem gl_1043 : Cond.codeWith yL_trace cL_trace 5 (some .int) [(0, 10, 13, 25), (0, 10, 17, 19)] ∈ gG := gG_in 1043 (by decide +kernel) (by decide +kernel)
theorem gl_1044 : Cond.methodLink RL 43 yX8_trace ∈ gG := gG_in 1044 (by decide +kernel) (by decide +kernel)
theorem gl_1045 : Cond.instanceMethod yX8_trace ∈ gG := gG_in 1045 (by decide +kernel) (by decide +kernel)
theorem gl_1046 : Cond.selects yX8_trace.cls yX8_trace yX8_trace ∈ gG := gG_in 1046 (by decide +kernel) (by decide +kernel)
theorem gl_1047 : Cond.code yX8_trace cX8_trace 3 (some .int) ∈ gG := gG_in 1047 (by decide +kernel) (by decide +kernel)
theorem cvL_trace : gCV RL 43 yX8_trace cX8_trace 3 (some .int) 2 := ⟨gl_1044, gl_1045, gl_1046, gl_92, gl_1047, by decide +kernel⟩
set_option maxHeartbeats 4000000 in
set_option maxRecDepth 100000 in
theorem wL_trace {w : gW} {l : Launch} (hl9 : l.stackTraces = false) {x1 x2 : Int} {M : gMem} {res : Nat ⊕ Int} (hr1 : gRI x1) (hr2 : gRI x2) (hf : fX8_trace gsh 1 x1 x2 M = some res) (he : ∀ e, res = .inl e → e = 3 ∨ e = 2) : gLT w gN gRm l yL_trace cL_trace 5 [(0, 10, 13, 25), (0, 10, 17, 19)] 7 122 2 12 [.ref (w.1 + 1), .int (gi x1), .int (gi x2), .ref (w.1 + 864)] M (qThr 3 res) (gWm res M) (∀ z, res = .inr z → gRI z) := by
  refine gLT.of hl9 (by decide +kernel) (Nat.le_of_ble_eq_true rfl) ?_
  intro p e s m below meth c hM tb rt lk hH ls hl
  have hM : gMD w p l s m ([.ref (w.1 + 1), .int (gi x1), .int (gi x2), .ref (w.1 + 864)] : List Value).toArray c cL_trace 5 RL := hM
  have hl : lv_has ls 5 [(0, .ref (w.1 + 1)), (1, .int (gi x1)), (2, .int (gi x2)), (3, .ref (w.1 + 864))] := hl
  refine lv_aload_n hM.fx.1 hM.fx.2.1 dL_trace_0 rfl (lv_at hl 3 rfl) ?_
  refine lv_iconst (v := gi (0)) hM.fx.1 hM.fx.2.1 dL_trace_1 rfl ?_
  refine lv_aload_n hM.fx.1 hM.fx.2.1 dL_trace_2 rfl (lv_at hl 0 rfl) ?_
  refine lv_iload_n hM.fx.1 hM.fx.2.1 dL_trace_3 rfl (lv_at hl 1 rfl) ?_
  refine lv_iload_n hM.fx.1 hM.fx.2.1 dL_trace_4 rfl (lv_at hl 2 rfl) ?_
  have hr := r_runVD (e := e) (below := below) (meth := meth) (R := { frames := 7, cells := 2, slots := 12, locals := 122 }) (As := [.int (gi x1), .int (gi x2)]) (b := 1) (t := 8) (rest := [.int (gi 0), .ref (w.1 + 864)]) (cells := 0) (slots := 0) (ls := ls) hM hH cvL_trace (mX8_trace gLC_main hl9 (g := gsh) (by decide +kernel) hr1 hr2 hf) ⟨by decide, by decide, by decide +kernel⟩ (by decide) rfl rfl rfl hl.1 rfl (Nat.le_of_ble_eq_true rfl) ⟨Nat.le_of_ble_eq_true rfl, Nat.le_of_ble_eq_true rfl⟩ ⟨Nat.le_of_ble_eq_true rfl, Nat.le_of_ble_eq_true rfl⟩ dL_trace_5
  cases res with
  | inl x =>
    rcases he x rfl with rfl | rfl
    · skip
      refine r_goC (P := _) (oc := .inl (gEx 3)) hM hH rfl hr [] ⟨0, 10, 13, 25⟩ [⟨0, 10, 17, 19⟩] (by rw [tb]; rfl) (fun z hz => by cases hz) (by rfl) (by decide) gl_954 gl_965 (fun q H locs hH => ?_)
      refine lv_astore (lv' := [(4, .ref q), (0, .ref (w.1 + 1)), (1, .int (gi x1)), (2, .int (gi x2)), (3, .ref (w.1 + 864))]) hM.fx.1 hM.fx.2.1 dL_trace_13 hl (by decide) rfl (fun ls hl => ?_)
      refine lv_iconst (v := gi (1)) hM.fx.1 hM.fx.2.1 dL_trace_15 rfl ?_
      exact d_iret hM rt lk hH (fun z h => (by cases h)) ⟨Nat.le_of_ble_eq_true rfl, Nat.le_of_ble_eq_true rfl⟩ dL_trace_16
    · skip
      refine r_goC (P := _) (oc := .inl (gEx 2)) hM hH rfl hr [⟨0, 10, 13, 25⟩] ⟨0, 10, 17, 19⟩ [] (by rw [tb]; rfl) (fun z hz => by
          rcases List.mem_singleton.mp hz with rfl
          exact ⟨by decide, gEx 3, gl_954, hM.nc.1⟩) (by rfl) (by decide) gl_920 gl_937 (fun q H locs hH => ?_)
      refine lv_astore (lv' := [(4, .ref q), (0, .ref (w.1 + 1)), (1, .int (gi x1)), (2, .int (gi x2)), (3, .ref (w.1 + 864))]) hM.fx.1 hM.fx.2.1 dL_trace_17 hl (by decide) rfl (fun ls hl => ?_)
      refine lv_iconst (v := gi (2)) hM.fx.1 hM.fx.2.1 dL_trace_19 rfl ?_
      exact d_iret hM rt lk hH (fun z h => (by cases h)) ⟨Nat.le_of_ble_eq_true rfl, Nat.le_of_ble_eq_true rfl⟩ dL_trace_20
  | inr x =>
    refine r_go1 hH rfl hr (fun hz H locs hH => ?_)
    have hz := hz x rfl
    refine r_i2l hM.fx hz dL_trace_8 ?_
    refine r_last (t := 35) hM.fx hM.kf hH ⟨by decide, by decide, by decide +kernel⟩ ⟨by decide, by decide⟩ (gcR (k := 0) (by decide)) ⟨by decide, by decide⟩ (gRI_L hz) dL_trace_9 (fun H locs hH => ?_)
    refine lv_goto (tgt := 21) hM.fx.1 hM.fx.2.1 dL_trace_10 (by decide) ?_
    refine lv_iconst (v := gi (0)) hM.fx.1 hM.fx.2.1 dL_trace_21 rfl ?_
    exact d_iret hM rt lk hH (fun z h => (by cases h; exact hz)) ⟨Nat.le_of_ble_eq_true rfl, Nat.le_of_ble_eq_true rfl⟩ dL_trace_22
theorem gl_1056 : Cond.codeWith yL_whyStuck cL_whyStuck 4 (some .int) [(0, 9, 12, 25)] ∈ gG := gG_in 1056 (by decide +kernel) (by decide +kernel)
theorem gl_1057 : Cond.methodLink RL 46 yX8_whyStuck ∈ gG := gG_in 1057 (by decide +kernel) (by decide +kernel)
theorem gl_1058 : Cond.instanceMethod yX8_whyStuck ∈ gG := gG_in 1058 (by decide +kernel) (by decide +kernel)
theorem gl_1059 : Cond.selects yX8_whyStuck.cls yX8_whyStuck yX8_whyStuck ∈ gG := gG_in 1059 (by decide +kernel) (by decide +kernel)
theorem gl_1060 : Cond.code yX8_whyStuck cX8_whyStuck 2 (some .int) ∈ gG := gG_in 1060 (by decide +kernel) (by decide +kernel)
theorem cvL_whyStuck : gCV RL 46 yX8_whyStuck cX8_whyStuck 2 (some .int) 1 := ⟨gl_1057, gl_1058, gl_1059, gl_92, gl_1060, by decide +kernel⟩
set_option maxHeartbeats 4000000 in
set_option maxRecDepth 100000 in
theorem wL_whyStuck {w : gW} {l : Launch} (hl9 : l.stackTraces = false) {x1 : Int} {M : gMem} {res : Nat ⊕ Int} (hr1 : gRI x1) (hf : fX8_whyStuck gsh 1 x1 M = some res) (he : ∀ e, res = .inl e → e = 3) : gLT w gN gRm l yL_whyStuck cL_whyStuck 4 [(0, 9, 12, 25)] 8 148 1 6 [.ref (w.1 + 1), .int (gi x1), .ref (w.1 + 864)] M (qThr 3 res) (gWm res M) (∀ z, res = .inr z → gRI z) := by
  refine gLT.of hl9 (by decide +kernel) (Nat.le_of_ble_eq_true rfl) ?_
  intro p e s m below meth c hM tb rt lk hH ls hl
  have hM : gMD w p l s m ([.ref (w.1 + 1), .int (gi x1), .ref (w.1 + 864)] : List Value).toArray c cL_whyStuck 4 RL := hM
  have hl : lv_has ls 4 [(0, .ref (w.1 + 1)), (1, .int (gi x1)), (2, .ref (w.1 + 864))] := hl
  refine lv_aload_n hM.fx.1 hM.fx.2.1 dL_whyStuck_0 rfl (lv_at hl 2 rfl) ?_
  refine lv_iconst (v := gi (0)) hM.fx.1 hM.fx.2.1 dL_whyStuck_1 rfl ?_
  refine lv_aload_n hM.fx.1 hM.fx.2.1 dL_whyStuck_2 rfl (lv_at hl 0 rfl) ?_
  refine lv_iload_n hM.fx.1 hM.fx.2.1 dL_whyStuck_3 rfl (lv_at hl 1 rfl) ?_
  have hr := r_runVD (e := e) (below := below) (meth := meth) (R := { frames := 8, cells := 1, slots := 6, locals := 148 }) (As := [.int (gi x1)]) (b := 1) (t := 8) (rest := [.int (gi 0), .ref (w.1 + 864)]) (cells := 0) (slots := 0) (ls := ls) hM hH cvL_whyStuck (mX8_whyStuck gLC_main hl9 (g := gsh) (by decide +kernel) hr1 hf) ⟨by decide, by decide, by decide +kernel⟩ (by decide) rfl rfl rfl hl.1 rfl (Nat.le_of_ble_eq_true rfl) ⟨Nat.le_of_ble_eq_true rfl, Nat.le_of_ble_eq_true rfl⟩ ⟨Nat.le_of_ble_eq_true rfl, Nat.le_of_ble_eq_true rfl⟩ dL_whyStuck_4
  cases res with
  | inl x =>
    obtain rfl := he x rfl
    refine r_goC (P := _) (oc := .inl (gEx 3)) hM hH rfl hr [] ⟨0, 9, 12, 25⟩ [] (by rw [tb]; rfl) (fun z hz => by cases hz) (by rfl) (by decide) gl_954 gl_965 (fun q H locs hH => ?_)
    refine lv_astore_n (lv' := [(3, .ref q), (0, .ref (w.1 + 1)), (1, .int (gi x1)), (2, .ref (w.1 + 864))]) hM.fx.1 hM.fx.2.1 dL_whyStuck_12 rfl hl (by decide) rfl (fun ls hl => ?_)
    refine lv_iconst (v := gi (1)) hM.fx.1 hM.fx.2.1 dL_whyStuck_13 rfl ?_
    exact d_iret hM rt lk hH (fun z h => (by cases h)) ⟨Nat.le_of_ble_eq_true rfl, Nat.le_of_ble_eq_true rfl⟩ dL_whyStuck_14
  | inr x =>
    refine r_go1 hH rfl hr (fun hz H locs hH => ?_)
    have hz := hz x rfl
    refine r_i2l hM.fx hz dL_whyStuck_7 ?_
    refine r_last (t := 35) hM.fx hM.kf hH ⟨by decide, by decide, by decide +kernel⟩ ⟨by decide, by decide⟩ (gcR (k := 0) (by decide)) ⟨by decide, by decide⟩ (gRI_L hz) dL_whyStuck_8 (fun H locs hH => ?_)
    refine lv_goto (tgt := 15) hM.fx.1 hM.fx.2.1 dL_whyStuck_9 (by decide) ?_
    refine lv_iconst (v := gi (0)) hM.fx.1 hM.fx.2.1 dL_whyStuck_15 rfl ?_
    exact d_iret hM rt lk hH (fun z h => (by cases h; exact hz)) ⟨Nat.le_of_ble_eq_true rfl, Nat.le_of_ble_eq_true rfl⟩ dL_whyStuck_16
theorem gl_1064 : Cond.codeWith yL_helpers cL_helpers 4 (some .int) [(0, 9, 12, 25)] ∈ gG := gG_in 1064 (by decide +kernel) (by decide +kernel)
theorem gl_1065 : Cond.methodLink RL 49 yX8_helpers ∈ gG := gG_in 1065 (by decide +kernel) (by decide +kernel)
theorem gl_1066 : Cond.instanceMethod yX8_helpers ∈ gG := gG_in 1066 (by decide +kernel) (by decide +kernel)
theorem gl_1067 : Cond.selects yX8_helpers.cls yX8_helpers yX8_helpers ∈ gG := gG_in 1067 (by decide +kernel) (by decide +kernel)
theorem gl_1068 : Cond.code yX8_helpers cX8_helpers 9 (some .int) ∈ gG := gG_in 1068 (by decide +kernel) (by decide +kernel)
theorem cvL_helpers : gCV RL 49 yX8_helpers cX8_helpers 9 (some .int) 1 := ⟨gl_1065, gl_1066, gl_1067, gl_92, gl_1068, by decide +kernel⟩
set_option maxHeartbeats 4000000 in
set_option maxRecDepth 100000 in
theorem wL_helpers {w : gW} {l : Launch} (hl9 : l.stackTraces = false) {x1 : Int} {M : gMem} {res : Nat ⊕ Int} (hr1 : gRI x1) (hf : fX8_helpers gsh 1 x1 M = some res) (he : ∀ e, res = .inl e → e = 3) : gLT w gN gRm l yL_helpers cL_helpers 4 [(0, 9, 12, 25)] 8 155 1 6 [.ref (w.1 + 1), .int (gi x1), .ref (w.1 + 864)] M (qThr 3 res) (gWm res M) (∀ z, res = .inr z → gRI z) := by
  refine gLT.of hl9 (by decide +kernel) (Nat.le_of_ble_eq_true rfl) ?_
  intro p e s m below meth c hM tb rt lk hH ls hl
  have hM : gMD w p l s m ([.ref (w.1 + 1), .int (gi x1), .ref (w.1 + 864)] : List Value).toArray c cL_helpers 4 RL := hM
  have hl : lv_has ls 4 [(0, .ref (w.1 + 1)), (1, .int (gi x1)), (2, .ref (w.1 + 864))] := hl
  refine lv_aload_n hM.fx.1 hM.fx.2.1 dL_helpers_0 rfl (lv_at hl 2 rfl) ?_
  refine lv_iconst (v := gi (0)) hM.fx.1 hM.fx.2.1 dL_helpers_1 rfl ?_
  refine lv_aload_n hM.fx.1 hM.fx.2.1 dL_helpers_2 rfl (lv_at hl 0 rfl) ?_
  refine lv_iload_n hM.fx.1 hM.fx.2.1 dL_helpers_3 rfl (lv_at hl 1 rfl) ?_
  have hr := r_runVD (e := e) (below := below) (meth := meth) (R := { frames := 8, cells := 1, slots := 6, locals := 155 }) (As := [.int (gi x1)]) (b := 1) (t := 8) (rest := [.int (gi 0), .ref (w.1 + 864)]) (cells := 0) (slots := 0) (ls := ls) hM hH cvL_helpers (mX8_helpers gLC_main hl9 (g := gsh) (by decide +kernel) hr1 hf) ⟨by decide, by decide, by decide +kernel⟩ (by decide) rfl rfl rfl hl.1 rfl (Nat.le_of_ble_eq_true rfl) ⟨Nat.le_of_ble_eq_true rfl, Nat.le_of_ble_eq_true rfl⟩ ⟨Nat.le_of_ble_eq_true rfl, Nat.le_of_ble_eq_true rfl⟩ dL_helpers_4
  cases res with
  | inl x =>
    obtain rfl := he x rfl
    refine r_goC (P := _) (oc := .inl (gEx 3)) hM hH rfl hr [] ⟨0, 9, 12, 25⟩ [] (by rw [tb]; rfl) (fun z hz => by cases hz) (by rfl) (by decide) gl_954 gl_965 (fun q H locs hH => ?_)
    refine lv_astore_n (lv' := [(3, .ref q), (0, .ref (w.1 + 1)), (1, .int (gi x1)), (2, .ref (w.1 + 864))]) hM.fx.1 hM.fx.2.1 dL_helpers_12 rfl hl (by decide) rfl (fun ls hl => ?_)
    refine lv_iconst (v := gi (1)) hM.fx.1 hM.fx.2.1 dL_helpers_13 rfl ?_
    exact d_iret hM rt lk hH (fun z h => (by cases h)) ⟨Nat.le_of_ble_eq_true rfl, Nat.le_of_ble_eq_true rfl⟩ dL_helpers_14
  | inr x =>
    refine r_go1 hH rfl hr (fun hz H locs hH => ?_)
    have hz := hz x rfl
    refine r_i2l hM.fx hz dL_helpers_7 ?_
    refine r_last (t := 35) hM.fx hM.kf hH ⟨by decide, by decide, by decide +kernel⟩ ⟨by decide, by decide⟩ (gcR (k := 0) (by decide)) ⟨by decide, by decide⟩ (gRI_L hz) dL_helpers_8 (fun H locs hH => ?_)
    refine lv_goto (tgt := 15) hM.fx.1 hM.fx.2.1 dL_helpers_9 (by decide) ?_
    refine lv_iconst (v := gi (0)) hM.fx.1 hM.fx.2.1 dL_helpers_15 rfl ?_
    exact d_iret hM rt lk hH (fun z h => (by cases h; exact hz)) ⟨Nat.le_of_ble_eq_true rfl, Nat.le_of_ble_eq_true rfl⟩ dL_helpers_16
theorem gl_1078 : Cond.codeWith yL_wouldSay cL_wouldSay 5 (some .int) [(0, 10, 13, 25), (0, 10, 17, 19)] ∈ gG := gG_in 1078 (by decide +kernel) (by decide +kernel)
theorem gl_1079 : Cond.methodLink RL 52 yX8_wouldSay ∈ gG := gG_in 1079 (by decide +kernel) (by decide +kernel)
theorem gl_1080 : Cond.instanceMethod yX8_wouldSay ∈ gG := gG_in 1080 (by decide +kernel) (by decide +kernel)
theorem gl_1081 : Cond.selects yX8_wouldSay.cls yX8_wouldSay yX8_wouldSay ∈ gG := gG_in 1081 (by decide +kernel) (by decide +kernel)
theorem gl_1082 : Cond.code yX8_wouldSay cX8_wouldSay 4 (some .int) ∈ gG := gG_in 1082 (by decide +kernel) (by decide +kernel)
theorem cvL_wouldSay : gCV RL 52 yX8_wouldSay cX8_wouldSay 4 (some .int) 2 := ⟨gl_1079, gl_1080, gl_1081, gl_92, gl_1082, by decide +kernel⟩
set_option maxHeartbeats 4000000 in
set_option maxRecDepth 100000 in
theorem wL_wouldSay {w : gW} {l : Launch} (hl9 : l.stackTraces = false) {x1 x2 : Int} {M M1 : gMem} {res : Nat ⊕ Int} (hr1 : gRI x1) (hr2 : gRI x2) (hf : fX8_wouldSay gsh 1 x1 x2 M = some (res, M1)) (he : ∀ e, res = .inl e → e = 3 ∨ e = 2) : gLT w gN gRm l yL_wouldSay cL_wouldSay 5 [(0, 10, 13, 25), (0, 10, 17, 19)] 8 227 2 12 [.ref (w.1 + 1), .int (gi x1), .int (gi x2), .ref (w.1 + 864)] M (qThr 3 res) (gWm res M1) (∀ z, res = .inr z → gRI z) := by
  refine gLT.of hl9 (by decide +kernel) (Nat.le_of_ble_eq_true rfl) ?_
  intro p e s m below meth c hM tb rt lk hH ls hl
  have hM : gMD w p l s m ([.ref (w.1 + 1), .int (gi x1), .int (gi x2), .ref (w.1 + 864)] : List Value).toArray c cL_wouldSay 5 RL := hM
  have hl : lv_has ls 5 [(0, .ref (w.1 + 1)), (1, .int (gi x1)), (2, .int (gi x2)), (3, .ref (w.1 + 864))] := hl
  refine lv_aload_n hM.fx.1 hM.fx.2.1 dL_wouldSay_0 rfl (lv_at hl 3 rfl) ?_
  refine lv_iconst (v := gi (0)) hM.fx.1 hM.fx.2.1 dL_wouldSay_1 rfl ?_
  refine lv_aload_n hM.fx.1 hM.fx.2.1 dL_wouldSay_2 rfl (lv_at hl 0 rfl) ?_
  refine lv_iload_n hM.fx.1 hM.fx.2.1 dL_wouldSay_3 rfl (lv_at hl 1 rfl) ?_
  refine lv_iload_n hM.fx.1 hM.fx.2.1 dL_wouldSay_4 rfl (lv_at hl 2 rfl) ?_
  have hr := r_runVD (e := e) (below := below) (meth := meth) (R := { frames := 8, cells := 2, slots := 12, locals := 227 }) (As := [.int (gi x1), .int (gi x2)]) (b := 1) (t := 8) (rest := [.int (gi 0), .ref (w.1 + 864)]) (cells := 0) (slots := 0) (ls := ls) hM hH cvL_wouldSay (mX8_wouldSay gLC_main hl9 (g := gsh) (by decide +kernel) hr1 hr2 hf) ⟨by decide, by decide, by decide +kernel⟩ (by decide) rfl rfl rfl hl.1 rfl (Nat.le_of_ble_eq_true rfl) ⟨Nat.le_of_ble_eq_true rfl, Nat.le_of_ble_eq_true rfl⟩ ⟨Nat.le_of_ble_eq_true rfl, Nat.le_of_ble_eq_true rfl⟩ dL_wouldSay_5
  cases res with
  | inl x =>
    rcases he x rfl with rfl | rfl
    · skip
      refine r_goC (P := _) (oc := .inl (gEx 3)) hM hH rfl hr [] ⟨0, 10, 13, 25⟩ [⟨0, 10, 17, 19⟩] (by rw [tb]; rfl) (fun z hz => by cases hz) (by rfl) (by decide) gl_954 gl_965 (fun q H locs hH => ?_)
      refine lv_astore (lv' := [(4, .ref q), (0, .ref (w.1 + 1)), (1, .int (gi x1)), (2, .int (gi x2)), (3, .ref (w.1 + 864))]) hM.fx.1 hM.fx.2.1 dL_wouldSay_13 hl (by decide) rfl (fun ls hl => ?_)
      refine lv_iconst (v := gi (1)) hM.fx.1 hM.fx.2.1 dL_wouldSay_15 rfl ?_
      exact d_iret hM rt lk hH (fun z h => (by cases h)) ⟨Nat.le_of_ble_eq_true rfl, Nat.le_of_ble_eq_true rfl⟩ dL_wouldSay_16
    · skip
      refine r_goC (P := _) (oc := .inl (gEx 2)) hM hH rfl hr [⟨0, 10, 13, 25⟩] ⟨0, 10, 17, 19⟩ [] (by rw [tb]; rfl) (fun z hz => by
          rcases List.mem_singleton.mp hz with rfl
          exact ⟨by decide, gEx 3, gl_954, hM.nc.1⟩) (by rfl) (by decide) gl_920 gl_937 (fun q H locs hH => ?_)
      refine lv_astore (lv' := [(4, .ref q), (0, .ref (w.1 + 1)), (1, .int (gi x1)), (2, .int (gi x2)), (3, .ref (w.1 + 864))]) hM.fx.1 hM.fx.2.1 dL_wouldSay_17 hl (by decide) rfl (fun ls hl => ?_)
      refine lv_iconst (v := gi (2)) hM.fx.1 hM.fx.2.1 dL_wouldSay_19 rfl ?_
      exact d_iret hM rt lk hH (fun z h => (by cases h)) ⟨Nat.le_of_ble_eq_true rfl, Nat.le_of_ble_eq_true rfl⟩ dL_wouldSay_20
  | inr x =>
    refine r_go1 hH rfl hr (fun hz H locs hH => ?_)
    have hz := hz x rfl
    refine r_i2l hM.fx hz dL_wouldSay_8 ?_
    refine r_last (t := 35) hM.fx hM.kf hH ⟨by decide, by decide, by decide +kernel⟩ ⟨by decide, by decide⟩ (gcR (k := 0) (by decide)) ⟨by decide, by decide⟩ (gRI_L hz) dL_wouldSay_9 (fun H locs hH => ?_)
    refine lv_goto (tgt := 21) hM.fx.1 hM.fx.2.1 dL_wouldSay_10 (by decide) ?_
    refine lv_iconst (v := gi (0)) hM.fx.1 hM.fx.2.1 dL_wouldSay_21 rfl ?_
    exact d_iret hM rt lk hH (fun z h => (by cases h; exact hz)) ⟨Nat.le_of_ble_eq_true rfl, Nat.le_of_ble_eq_true rfl⟩ dL_wouldSay_22
theorem gl_1087 : Cond.codeWith yL_wouldFail cL_wouldFail 4 (some .int) [(0, 9, 12, 25)] ∈ gG := gG_in 1087 (by decide +kernel) (by decide +kernel)
theorem gl_1088 : Cond.methodLink RL 55 yX8_wouldFail ∈ gG := gG_in 1088 (by decide +kernel) (by decide +kernel)
theorem gl_1089 : Cond.instanceMethod yX8_wouldFail ∈ gG := gG_in 1089 (by decide +kernel) (by decide +kernel)
theorem gl_1090 : Cond.selects yX8_wouldFail.cls yX8_wouldFail yX8_wouldFail ∈ gG := gG_in 1090 (by decide +kernel) (by decide +kernel)
theorem gl_1091 : Cond.code yX8_wouldFail cX8_wouldFail 3 (some .int) ∈ gG := gG_in 1091 (by decide +kernel) (by decide +kernel)
theorem cvL_wouldFail : gCV RL 55 yX8_wouldFail cX8_wouldFail 3 (some .int) 1 := ⟨gl_1088, gl_1089, gl_1090, gl_92, gl_1091, by decide +kernel⟩
set_option maxHeartbeats 4000000 in
set_option maxRecDepth 100000 in
theorem wL_wouldFail {w : gW} {l : Launch} (hl9 : l.stackTraces = false) {x1 : Int} {M M1 : gMem} {res : Nat ⊕ Int} (hr1 : gRI x1) (hf : fX8_wouldFail gsh 1 x1 M = some (res, M1)) (he : ∀ e, res = .inl e → e = 3) : gLT w gN gRm l yL_wouldFail cL_wouldFail 4 [(0, 9, 12, 25)] 8 226 1 6 [.ref (w.1 + 1), .int (gi x1), .ref (w.1 + 864)] M (qThr 3 res) (gWm res M1) (∀ z, res = .inr z → gRI z) := by
  refine gLT.of hl9 (by decide +kernel) (Nat.le_of_ble_eq_true rfl) ?_
  intro p e s m below meth c hM tb rt lk hH ls hl
  have hM : gMD w p l s m ([.ref (w.1 + 1), .int (gi x1), .ref (w.1 + 864)] : List Value).toArray c cL_wouldFail 4 RL := hM
  have hl : lv_has ls 4 [(0, .ref (w.1 + 1)), (1, .int (gi x1)), (2, .ref (w.1 + 864))] := hl
  refine lv_aload_n hM.fx.1 hM.fx.2.1 dL_wouldFail_0 rfl (lv_at hl 2 rfl) ?_
  refine lv_iconst (v := gi (0)) hM.fx.1 hM.fx.2.1 dL_wouldFail_1 rfl ?_
  refine lv_aload_n hM.fx.1 hM.fx.2.1 dL_wouldFail_2 rfl (lv_at hl 0 rfl) ?_
  refine lv_iload_n hM.fx.1 hM.fx.2.1 dL_wouldFail_3 rfl (lv_at hl 1 rfl) ?_
  have hr := r_runVD (e := e) (below := below) (meth := meth) (R := { frames := 8, cells := 1, slots := 6, locals := 226 }) (As := [.int (gi x1)]) (b := 1) (t := 8) (rest := [.int (gi 0), .ref (w.1 + 864)]) (cells := 0) (slots := 0) (ls := ls) hM hH cvL_wouldFail (mX8_wouldFail gLC_main hl9 (g := gsh) (by decide +kernel) hr1 hf) ⟨by decide, by decide, by decide +kernel⟩ (by decide) rfl rfl rfl hl.1 rfl (Nat.le_of_ble_eq_true rfl) ⟨Nat.le_of_ble_eq_true rfl, Nat.le_of_ble_eq_true rfl⟩ ⟨Nat.le_of_ble_eq_true rfl, Nat.le_of_ble_eq_true rfl⟩ dL_wouldFail_4
  cases res with
  | inl x =>
    obtain rfl := he x rfl
    refine r_goC (P := _) (oc := .inl (gEx 3)) hM hH rfl hr [] ⟨0, 9, 12, 25⟩ [] (by rw [tb]; rfl) (fun z hz => by cases hz) (by rfl) (by decide) gl_954 gl_965 (fun q H locs hH => ?_)
    refine lv_astore_n (lv' := [(3, .ref q), (0, .ref (w.1 + 1)), (1, .int (gi x1)), (2, .ref (w.1 + 864))]) hM.fx.1 hM.fx.2.1 dL_wouldFail_12 rfl hl (by decide) rfl (fun ls hl => ?_)
    refine lv_iconst (v := gi (1)) hM.fx.1 hM.fx.2.1 dL_wouldFail_13 rfl ?_
    exact d_iret hM rt lk hH (fun z h => (by cases h)) ⟨Nat.le_of_ble_eq_true rfl, Nat.le_of_ble_eq_true rfl⟩ dL_wouldFail_14
  | inr x =>
    refine r_go1 hH rfl hr (fun hz H locs hH => ?_)
    have hz := hz x rfl
    refine r_i2l hM.fx hz dL_wouldFail_7 ?_
    refine r_last (t := 35) hM.fx hM.kf hH ⟨by decide, by decide, by decide +kernel⟩ ⟨by decide, by decide⟩ (gcR (k := 0) (by decide)) ⟨by decide, by decide⟩ (gRI_L hz) dL_wouldFail_8 (fun H locs hH => ?_)
    refine lv_goto (tgt := 15) hM.fx.1 hM.fx.2.1 dL_wouldFail_9 (by decide) ?_
    refine lv_iconst (v := gi (0)) hM.fx.1 hM.fx.2.1 dL_wouldFail_15 rfl ?_
    exact d_iret hM rt lk hH (fun z h => (by cases h; exact hz)) ⟨Nat.le_of_ble_eq_true rfl, Nat.le_of_ble_eq_true rfl⟩ dL_wouldFail_16
theorem gl_1094 : Cond.codeWith yL_bestSlot cL_bestSlot 4 (some .int) [(0, 9, 12, 25)] ∈ gG := gG_in 1094 (by decide +kernel) (by decide +kernel)
theorem gl_1095 : Cond.methodLink RL 58 yX8_bestSlot ∈ gG := gG_in 1095 (by decide +kernel) (by decide +kernel)
theorem gl_1096 : Cond.instanceMethod yX8_bestSlot ∈ gG := gG_in 1096 (by decide +kernel) (by decide +kernel)
theorem gl_1097 : Cond.selects yX8_bestSlot.cls yX8_bestSlot yX8_bestSlot ∈ gG := gG_in 1097 (by decide +kernel) (by decide +kernel)
theorem gl_1098 : Cond.code yX8_bestSlot cX8_bestSlot 7 (some .int) ∈ gG := gG_in 1098 (by decide +kernel) (by decide +kernel)
theorem cvL_bestSlot : gCV RL 58 yX8_bestSlot cX8_bestSlot 7 (some .int) 1 := ⟨gl_1095, gl_1096, gl_1097, gl_92, gl_1098, by decide +kernel⟩
set_option maxHeartbeats 4000000 in
set_option maxRecDepth 100000 in
theorem wL_bestSlot {w : gW} {l : Launch} (hl9 : l.stackTraces = false) {x1 : Int} {M M1 : gMem} {res : Nat ⊕ Int} (hr1 : gRI x1) (hf : fX8_bestSlot gsh 1 x1 M = some (res, M1)) (he : ∀ e, res = .inl e → e = 3) : gLT w gN gRm l yL_bestSlot cL_bestSlot 4 [(0, 9, 12, 25)] 8 230 1 6 [.ref (w.1 + 1), .int (gi x1), .ref (w.1 + 864)] M (qThr 3 res) (gWm res M1) (∀ z, res = .inr z → gRI z) := by
  refine gLT.of hl9 (by decide +kernel) (Nat.le_of_ble_eq_true rfl) ?_
  intro p e s m below meth c hM tb rt lk hH ls hl
  have hM : gMD w p l s m ([.ref (w.1 + 1), .int (gi x1), .ref (w.1 + 864)] : List Value).toArray c cL_bestSlot 4 RL := hM
  have hl : lv_has ls 4 [(0, .ref (w.1 + 1)), (1, .int (gi x1)), (2, .ref (w.1 + 864))] := hl
  refine lv_aload_n hM.fx.1 hM.fx.2.1 dL_bestSlot_0 rfl (lv_at hl 2 rfl) ?_
  refine lv_iconst (v := gi (0)) hM.fx.1 hM.fx.2.1 dL_bestSlot_1 rfl ?_
  refine lv_aload_n hM.fx.1 hM.fx.2.1 dL_bestSlot_2 rfl (lv_at hl 0 rfl) ?_
  refine lv_iload_n hM.fx.1 hM.fx.2.1 dL_bestSlot_3 rfl (lv_at hl 1 rfl) ?_
  have hr := r_runVD (e := e) (below := below) (meth := meth) (R := { frames := 8, cells := 1, slots := 6, locals := 230 }) (As := [.int (gi x1)]) (b := 1) (t := 8) (rest := [.int (gi 0), .ref (w.1 + 864)]) (cells := 0) (slots := 0) (ls := ls) hM hH cvL_bestSlot (mX8_bestSlot gLC_main hl9 (g := gsh) (by decide +kernel) hr1 hf) ⟨by decide, by decide, by decide +kernel⟩ (by decide) rfl rfl rfl hl.1 rfl (Nat.le_of_ble_eq_true rfl) ⟨Nat.le_of_ble_eq_true rfl, Nat.le_of_ble_eq_true rfl⟩ ⟨Nat.le_of_ble_eq_true rfl, Nat.le_of_ble_eq_true rfl⟩ dL_bestSlot_4
  cases res with
  | inl x =>
    obtain rfl := he x rfl
    refine r_goC (P := _) (oc := .inl (gEx 3)) hM hH rfl hr [] ⟨0, 9, 12, 25⟩ [] (by rw [tb]; rfl) (fun z hz => by cases hz) (by rfl) (by decide) gl_954 gl_965 (fun q H locs hH => ?_)
    refine lv_astore_n (lv' := [(3, .ref q), (0, .ref (w.1 + 1)), (1, .int (gi x1)), (2, .ref (w.1 + 864))]) hM.fx.1 hM.fx.2.1 dL_bestSlot_12 rfl hl (by decide) rfl (fun ls hl => ?_)
    refine lv_iconst (v := gi (1)) hM.fx.1 hM.fx.2.1 dL_bestSlot_13 rfl ?_
    exact d_iret hM rt lk hH (fun z h => (by cases h)) ⟨Nat.le_of_ble_eq_true rfl, Nat.le_of_ble_eq_true rfl⟩ dL_bestSlot_14
  | inr x =>
    refine r_go1 hH rfl hr (fun hz H locs hH => ?_)
    have hz := hz x rfl
    refine r_i2l hM.fx hz dL_bestSlot_7 ?_
    refine r_last (t := 35) hM.fx hM.kf hH ⟨by decide, by decide, by decide +kernel⟩ ⟨by decide, by decide⟩ (gcR (k := 0) (by decide)) ⟨by decide, by decide⟩ (gRI_L hz) dL_bestSlot_8 (fun H locs hH => ?_)
    refine lv_goto (tgt := 15) hM.fx.1 hM.fx.2.1 dL_bestSlot_9 (by decide) ?_
    refine lv_iconst (v := gi (0)) hM.fx.1 hM.fx.2.1 dL_bestSlot_15 rfl ?_
    exact d_iret hM rt lk hH (fun z h => (by cases h; exact hz)) ⟨Nat.le_of_ble_eq_true rfl, Nat.le_of_ble_eq_true rfl⟩ dL_bestSlot_16
theorem gl_1105 : Cond.codeWith yL_run cL_run 4 (some .int) [(0, 9, 12, 19)] ∈ gG := gG_in 1105 (by decide +kernel) (by decide +kernel)
theorem gl_1106 : Cond.methodLink RL 61 yX8_run ∈ gG := gG_in 1106 (by decide +kernel) (by decide +kernel)
theorem gl_1107 : Cond.instanceMethod yX8_run ∈ gG := gG_in 1107 (by decide +kernel) (by decide +kernel)
theorem gl_1108 : Cond.selects yX8_run.cls yX8_run yX8_run ∈ gG := gG_in 1108 (by decide +kernel) (by decide +kernel)
theorem gl_1109 : Cond.code yX8_run cX8_run 2 (some .int) ∈ gG := gG_in 1109 (by decide +kernel) (by decide +kernel)
theorem cvL_run : gCV RL 61 yX8_run cX8_run 2 (some .int) 1 := ⟨gl_1106, gl_1107, gl_1108, gl_92, gl_1109, by decide +kernel⟩
set_option maxHeartbeats 4000000 in
set_option maxRecDepth 100000 in
theorem wL_run {w : gW} {l : Launch} (hl9 : l.stackTraces = false) {x1 : Int} {M M1 : gMem} {res : Nat ⊕ Int} (hr1 : gRI x1) (hf : fX8_run gsh 1 x1 M = some (res, M1)) (he : ∀ e, res = .inl e → e = 2) : gLT w gN gRm l yL_run cL_run 4 [(0, 9, 12, 19)] 8 225 1 6 [.ref (w.1 + 1), .int (gi x1), .ref (w.1 + 864)] M (qThr 2 res) (gWm res M1) (∀ z, res = .inr z → gRI z) := by
  refine gLT.of hl9 (by decide +kernel) (Nat.le_of_ble_eq_true rfl) ?_
  intro p e s m below meth c hM tb rt lk hH ls hl
  have hM : gMD w p l s m ([.ref (w.1 + 1), .int (gi x1), .ref (w.1 + 864)] : List Value).toArray c cL_run 4 RL := hM
  have hl : lv_has ls 4 [(0, .ref (w.1 + 1)), (1, .int (gi x1)), (2, .ref (w.1 + 864))] := hl
  refine lv_aload_n hM.fx.1 hM.fx.2.1 dL_run_0 rfl (lv_at hl 2 rfl) ?_
  refine lv_iconst (v := gi (0)) hM.fx.1 hM.fx.2.1 dL_run_1 rfl ?_
  refine lv_aload_n hM.fx.1 hM.fx.2.1 dL_run_2 rfl (lv_at hl 0 rfl) ?_
  refine lv_iload_n hM.fx.1 hM.fx.2.1 dL_run_3 rfl (lv_at hl 1 rfl) ?_
  have hr := r_runVD (e := e) (below := below) (meth := meth) (R := { frames := 8, cells := 1, slots := 6, locals := 225 }) (As := [.int (gi x1)]) (b := 1) (t := 8) (rest := [.int (gi 0), .ref (w.1 + 864)]) (cells := 0) (slots := 0) (ls := ls) hM hH cvL_run (mX8_run gLC_main hl9 (g := gsh) (by decide +kernel) hr1 hf) ⟨by decide, by decide, by decide +kernel⟩ (by decide) rfl rfl rfl hl.1 rfl (Nat.le_of_ble_eq_true rfl) ⟨Nat.le_of_ble_eq_true rfl, Nat.le_of_ble_eq_true rfl⟩ ⟨Nat.le_of_ble_eq_true rfl, Nat.le_of_ble_eq_true rfl⟩ dL_run_4
  cases res with
  | inl x =>
    obtain rfl := he x rfl
    refine r_goC (P := _) (oc := .inl (gEx 2)) hM hH rfl hr [] ⟨0, 9, 12, 19⟩ [] (by rw [tb]; rfl) (fun z hz => by cases hz) (by rfl) (by decide) gl_920 gl_937 (fun q H locs hH => ?_)
    refine lv_astore_n (lv' := [(3, .ref q), (0, .ref (w.1 + 1)), (1, .int (gi x1)), (2, .ref (w.1 + 864))]) hM.fx.1 hM.fx.2.1 dL_run_12 rfl hl (by decide) rfl (fun ls hl => ?_)
    refine lv_iconst (v := gi (1)) hM.fx.1 hM.fx.2.1 dL_run_13 rfl ?_
    exact d_iret hM rt lk hH (fun z h => (by cases h)) ⟨Nat.le_of_ble_eq_true rfl, Nat.le_of_ble_eq_true rfl⟩ dL_run_14
  | inr x =>
    refine r_go1 hH rfl hr (fun hz H locs hH => ?_)
    have hz := hz x rfl
    refine r_i2l hM.fx hz dL_run_7 ?_
    refine r_last (t := 35) hM.fx hM.kf hH ⟨by decide, by decide, by decide +kernel⟩ ⟨by decide, by decide⟩ (gcR (k := 0) (by decide)) ⟨by decide, by decide⟩ (gRI_L hz) dL_run_8 (fun H locs hH => ?_)
    refine lv_goto (tgt := 15) hM.fx.1 hM.fx.2.1 dL_run_9 (by decide) ?_
    refine lv_iconst (v := gi (0)) hM.fx.1 hM.fx.2.1 dL_run_15 rfl ?_
    exact d_iret hM rt lk hH (fun z h => (by cases h; exact hz)) ⟨Nat.le_of_ble_eq_true rfl, Nat.le_of_ble_eq_true rfl⟩ dL_run_16
theorem gl_1113 : Cond.codeWith yL_allow cL_allow 6 (some .int) [(0, 12, 15, 25)] ∈ gG := gG_in 1113 (by decide +kernel) (by decide +kernel)
theorem gl_1114 : Cond.methodLink RL 64 yX8_allow ∈ gG := gG_in 1114 (by decide +kernel) (by decide +kernel)
theorem gl_1115 : Cond.instanceMethod yX8_allow ∈ gG := gG_in 1115 (by decide +kernel) (by decide +kernel)
theorem gl_1116 : Cond.selects yX8_allow.cls yX8_allow yX8_allow ∈ gG := gG_in 1116 (by decide +kernel) (by decide +kernel)
theorem gl_1117 : Cond.code yX8_allow cX8_allow 6 (some .int) ∈ gG := gG_in 1117 (by decide +kernel) (by decide +kernel)
theorem cvL_allow : gCV RL 64 yX8_allow cX8_allow 6 (some .int) 3 := ⟨gl_1114, gl_1115, gl_1116, gl_92, gl_1117, by decide +kernel⟩
set_option maxHeartbeats 4000000 in
set_option maxRecDepth 100000 in
theorem wL_allow {w : gW} {l : Launch} (hl9 : l.stackTraces = false) {x1 x2 x3 : Int} {M M1 : gMem} {res : Nat ⊕ Int} (hr1 : gRI x1) (hr2 : gRI x2) (hr3 : gRI x3) (hf : fX8_allow gsh 1 x1 x2 x3 M = some (res, M1)) (he : ∀ e, res = .inl e → e = 3) : gLT w gN gRm l yL_allow cL_allow 6 [(0, 12, 15, 25)] 8 149 2 12 [.ref (w.1 + 1), .int (gi x1), .int (gi x2), .int (gi x3), .ref (w.1 + 864)] M (qThr 3 res) (gWm res M1) (∀ z, res = .inr z → gRI z) := by
  refine gLT.of hl9 (by decide +kernel) (Nat.le_of_ble_eq_true rfl) ?_
  intro p e s m below meth c hM tb rt lk hH ls hl
  have hM : gMD w p l s m ([.ref (w.1 + 1), .int (gi x1), .int (gi x2), .int (gi x3), .ref (w.1 + 864)] : List Value).toArray c cL_allow 6 RL := hM
  have hl : lv_has ls 6 [(0, .ref (w.1 + 1)), (1, .int (gi x1)), (2, .int (gi x2)), (3, .int (gi x3)), (4, .ref (w.1 + 864))] := hl
  refine lv_aload hM.fx.1 hM.fx.2.1 dL_allow_0 (lv_at hl 4 rfl) ?_
  refine lv_iconst (v := gi (0)) hM.fx.1 hM.fx.2.1 dL_allow_2 rfl ?_
  refine lv_aload_n hM.fx.1 hM.fx.2.1 dL_allow_3 rfl (lv_at hl 0 rfl) ?_
  refine lv_iload_n hM.fx.1 hM.fx.2.1 dL_allow_4 rfl (lv_at hl 1 rfl) ?_
  refine lv_iload_n hM.fx.1 hM.fx.2.1 dL_allow_5 rfl (lv_at hl 2 rfl) ?_
  refine lv_iload_n hM.fx.1 hM.fx.2.1 dL_allow_6 rfl (lv_at hl 3 rfl) ?_
  have hr := r_runVD (e := e) (below := below) (meth := meth) (R := { frames := 8, cells := 2, slots := 12, locals := 149 }) (As := [.int (gi x1), .int (gi x2), .int (gi x3)]) (b := 1) (t := 8) (rest := [.int (gi 0), .ref (w.1 + 864)]) (cells := 0) (slots := 0) (ls := ls) hM hH cvL_allow (mX8_allow gLC_main hl9 (g := gsh) (by decide +kernel) hr1 hr2 hr3 hf) ⟨by decide, by decide, by decide +kernel⟩ (by decide) rfl rfl rfl hl.1 rfl (Nat.le_of_ble_eq_true rfl) ⟨Nat.le_of_ble_eq_true rfl, Nat.le_of_ble_eq_true rfl⟩ ⟨Nat.le_of_ble_eq_true rfl, Nat.le_of_ble_eq_true rfl⟩ dL_allow_7
  cases res with
  | inl x =>
    obtain rfl := he x rfl
    refine r_goC (P := _) (oc := .inl (gEx 3)) hM hH rfl hr [] ⟨0, 12, 15, 25⟩ [] (by rw [tb]; rfl) (fun z hz => by cases hz) (by rfl) (by decide) gl_954 gl_965 (fun q H locs hH => ?_)
    refine lv_astore (lv' := [(5, .ref q), (0, .ref (w.1 + 1)), (1, .int (gi x1)), (2, .int (gi x2)), (3, .int (gi x3)), (4, .ref (w.1 + 864))]) hM.fx.1 hM.fx.2.1 dL_allow_15 hl (by decide) rfl (fun ls hl => ?_)
    refine lv_iconst (v := gi (1)) hM.fx.1 hM.fx.2.1 dL_allow_17 rfl ?_
    exact d_iret hM rt lk hH (fun z h => (by cases h)) ⟨Nat.le_of_ble_eq_true rfl, Nat.le_of_ble_eq_true rfl⟩ dL_allow_18
  | inr x =>
    refine r_go1 hH rfl hr (fun hz H locs hH => ?_)
    have hz := hz x rfl
    refine r_i2l hM.fx hz dL_allow_10 ?_
    refine r_last (t := 35) hM.fx hM.kf hH ⟨by decide, by decide, by decide +kernel⟩ ⟨by decide, by decide⟩ (gcR (k := 0) (by decide)) ⟨by decide, by decide⟩ (gRI_L hz) dL_allow_11 (fun H locs hH => ?_)
    refine lv_goto (tgt := 19) hM.fx.1 hM.fx.2.1 dL_allow_12 (by decide) ?_
    refine lv_iconst (v := gi (0)) hM.fx.1 hM.fx.2.1 dL_allow_19 rfl ?_
    exact d_iret hM rt lk hH (fun z h => (by cases h; exact hz)) ⟨Nat.le_of_ble_eq_true rfl, Nat.le_of_ble_eq_true rfl⟩ dL_allow_20
theorem gl_1120 : Cond.codeWith yL_setTurn cL_setTurn 5 (some .int) [(0, 10, 13, 25), (0, 10, 17, 19)] ∈ gG := gG_in 1120 (by decide +kernel) (by decide +kernel)
theorem gl_1121 : Cond.methodLink RL 68 yX8_setTurn ∈ gG := gG_in 1121 (by decide +kernel) (by decide +kernel)
theorem gl_1122 : Cond.instanceMethod yX8_setTurn ∈ gG := gG_in 1122 (by decide +kernel) (by decide +kernel)
theorem gl_1123 : Cond.selects yX8_setTurn.cls yX8_setTurn yX8_setTurn ∈ gG := gG_in 1123 (by decide +kernel) (by decide +kernel)
theorem gl_1124 : Cond.code yX8_setTurn cX8_setTurn 5 (some .int) ∈ gG := gG_in 1124 (by decide +kernel) (by decide +kernel)
theorem cvL_setTurn : gCV RL 68 yX8_setTurn cX8_setTurn 5 (some .int) 2 := ⟨gl_1121, gl_1122, gl_1123, gl_92, gl_1124, by decide +kernel⟩
set_option maxHeartbeats 4000000 in
set_option maxRecDepth 100000 in
theorem wL_setTurn {w : gW} {l : Launch} (hl9 : l.stackTraces = false) {x1 x2 : Int} {M M1 : gMem} {res : Nat ⊕ Int} (hr1 : gRI x1) (hr2 : gRI x2) (hf : fX8_setTurn gsh 1 x1 x2 M = some (res, M1)) (he : ∀ e, res = .inl e → e = 3 ∨ e = 2) : gLT w gN gRm l yL_setTurn cL_setTurn 5 [(0, 10, 13, 25), (0, 10, 17, 19)] 8 148 2 12 [.ref (w.1 + 1), .int (gi x1), .int (gi x2), .ref (w.1 + 864)] M (qThr 3 res) (gWm res M1) (∀ z, res = .inr z → gRI z) := by
  refine gLT.of hl9 (by decide +kernel) (Nat.le_of_ble_eq_true rfl) ?_
  intro p e s m below meth c hM tb rt lk hH ls hl
  have hM : gMD w p l s m ([.ref (w.1 + 1), .int (gi x1), .int (gi x2), .ref (w.1 + 864)] : List Value).toArray c cL_setTurn 5 RL := hM
  have hl : lv_has ls 5 [(0, .ref (w.1 + 1)), (1, .int (gi x1)), (2, .int (gi x2)), (3, .ref (w.1 + 864))] := hl
  refine lv_aload_n hM.fx.1 hM.fx.2.1 dL_setTurn_0 rfl (lv_at hl 3 rfl) ?_
  refine lv_iconst (v := gi (0)) hM.fx.1 hM.fx.2.1 dL_setTurn_1 rfl ?_
  refine lv_aload_n hM.fx.1 hM.fx.2.1 dL_setTurn_2 rfl (lv_at hl 0 rfl) ?_
  refine lv_iload_n hM.fx.1 hM.fx.2.1 dL_setTurn_3 rfl (lv_at hl 1 rfl) ?_
  refine lv_iload_n hM.fx.1 hM.fx.2.1 dL_setTurn_4 rfl (lv_at hl 2 rfl) ?_
  have hr := r_runVD (e := e) (below := below) (meth := meth) (R := { frames := 8, cells := 2, slots := 12, locals := 148 }) (As := [.int (gi x1), .int (gi x2)]) (b := 1) (t := 8) (rest := [.int (gi 0), .ref (w.1 + 864)]) (cells := 0) (slots := 0) (ls := ls) hM hH cvL_setTurn (mX8_setTurn gLC_main hl9 (g := gsh) (by decide +kernel) hr1 hr2 hf) ⟨by decide, by decide, by decide +kernel⟩ (by decide) rfl rfl rfl hl.1 rfl (Nat.le_of_ble_eq_true rfl) ⟨Nat.le_of_ble_eq_true rfl, Nat.le_of_ble_eq_true rfl⟩ ⟨Nat.le_of_ble_eq_true rfl, Nat.le_of_ble_eq_true rfl⟩ dL_setTurn_5
  cases res with
  | inl x =>
    rcases he x rfl with rfl | rfl
    · skip
      refine r_goC (P := _) (oc := .inl (gEx 3)) hM hH rfl hr [] ⟨0, 10, 13, 25⟩ [⟨0, 10, 17, 19⟩] (by rw [tb]; rfl) (fun z hz => by cases hz) (by rfl) (by decide) gl_954 gl_965 (fun q H locs hH => ?_)
      refine lv_astore (lv' := [(4, .ref q), (0, .ref (w.1 + 1)), (1, .int (gi x1)), (2, .int (gi x2)), (3, .ref (w.1 + 864))]) hM.fx.1 hM.fx.2.1 dL_setTurn_13 hl (by decide) rfl (fun ls hl => ?_)
      refine lv_iconst (v := gi (1)) hM.fx.1 hM.fx.2.1 dL_setTurn_15 rfl ?_
      exact d_iret hM rt lk hH (fun z h => (by cases h)) ⟨Nat.le_of_ble_eq_true rfl, Nat.le_of_ble_eq_true rfl⟩ dL_setTurn_16
    · skip
      refine r_goC (P := _) (oc := .inl (gEx 2)) hM hH rfl hr [⟨0, 10, 13, 25⟩] ⟨0, 10, 17, 19⟩ [] (by rw [tb]; rfl) (fun z hz => by
          rcases List.mem_singleton.mp hz with rfl
          exact ⟨by decide, gEx 3, gl_954, hM.nc.1⟩) (by rfl) (by decide) gl_920 gl_937 (fun q H locs hH => ?_)
      refine lv_astore (lv' := [(4, .ref q), (0, .ref (w.1 + 1)), (1, .int (gi x1)), (2, .int (gi x2)), (3, .ref (w.1 + 864))]) hM.fx.1 hM.fx.2.1 dL_setTurn_17 hl (by decide) rfl (fun ls hl => ?_)
      refine lv_iconst (v := gi (2)) hM.fx.1 hM.fx.2.1 dL_setTurn_19 rfl ?_
      exact d_iret hM rt lk hH (fun z h => (by cases h)) ⟨Nat.le_of_ble_eq_true rfl, Nat.le_of_ble_eq_true rfl⟩ dL_setTurn_20
  | inr x =>
    refine r_go1 hH rfl hr (fun hz H locs hH => ?_)
    have hz := hz x rfl
    refine r_i2l hM.fx hz dL_setTurn_8 ?_
    refine r_last (t := 35) hM.fx hM.kf hH ⟨by decide, by decide, by decide +kernel⟩ ⟨by decide, by decide⟩ (gcR (k := 0) (by decide)) ⟨by decide, by decide⟩ (gRI_L hz) dL_setTurn_9 (fun H locs hH => ?_)
    refine lv_goto (tgt := 21) hM.fx.1 hM.fx.2.1 dL_setTurn_10 (by decide) ?_
    refine lv_iconst (v := gi (0)) hM.fx.1 hM.fx.2.1 dL_setTurn_21 rfl ?_
    exact d_iret hM rt lk hH (fun z h => (by cases h; exact hz)) ⟨Nat.le_of_ble_eq_true rfl, Nat.le_of_ble_eq_true rfl⟩ dL_setTurn_22
theorem gl_1128 : Cond.codeWith yL_put cL_put 5 (some .int) [(0, 10, 13, 25), (0, 10, 17, 19)] ∈ gG := gG_in 1128 (by decide +kernel) (by decide +kernel)
theorem gl_1129 : Cond.methodLink RL 71 yX8_put ∈ gG := gG_in 1129 (by decide +kernel) (by decide +kernel)
theorem gl_1130 : Cond.instanceMethod yX8_put ∈ gG := gG_in 1130 (by decide +kernel) (by decide +kernel)
theorem gl_1131 : Cond.selects yX8_put.cls yX8_put yX8_put ∈ gG := gG_in 1131 (by decide +kernel) (by decide +kernel)
theorem gl_1132 : Cond.code yX8_put cX8_put 4 (some .int) ∈ gG := gG_in 1132 (by decide +kernel) (by decide +kernel)
theorem cvL_put : gCV RL 71 yX8_put cX8_put 4 (some .int) 2 := ⟨gl_1129, gl_1130, gl_1131, gl_92, gl_1132, by decide +kernel⟩
set_option maxHeartbeats 4000000 in
set_option maxRecDepth 100000 in
theorem wL_put {w : gW} {l : Launch} (hl9 : l.stackTraces = false) {x1 x2 : Int} {M M1 : gMem} {res : Nat ⊕ Int} (hr1 : gRI x1) (hr2 : gRI x2) (hf : fX8_put gsh 1 x1 x2 M = some (res, M1)) (he : ∀ e, res = .inl e → e = 3 ∨ e = 2) : gLT w gN gRm l yL_put cL_put 5 [(0, 10, 13, 25), (0, 10, 17, 19)] 8 147 2 12 [.ref (w.1 + 1), .int (gi x1), .int (gi x2), .ref (w.1 + 864)] M (qThr 3 res) (gWm res M1) (∀ z, res = .inr z → gRI z) := by
  refine gLT.of hl9 (by decide +kernel) (Nat.le_of_ble_eq_true rfl) ?_
  intro p e s m below meth c hM tb rt lk hH ls hl
  have hM : gMD w p l s m ([.ref (w.1 + 1), .int (gi x1), .int (gi x2), .ref (w.1 + 864)] : List Value).toArray c cL_put 5 RL := hM
  have hl : lv_has ls 5 [(0, .ref (w.1 + 1)), (1, .int (gi x1)), (2, .int (gi x2)), (3, .ref (w.1 + 864))] := hl
  refine lv_aload_n hM.fx.1 hM.fx.2.1 dL_put_0 rfl (lv_at hl 3 rfl) ?_
  refine lv_iconst (v := gi (0)) hM.fx.1 hM.fx.2.1 dL_put_1 rfl ?_
  refine lv_aload_n hM.fx.1 hM.fx.2.1 dL_put_2 rfl (lv_at hl 0 rfl) ?_
  refine lv_iload_n hM.fx.1 hM.fx.2.1 dL_put_3 rfl (lv_at hl 1 rfl) ?_
  refine lv_iload_n hM.fx.1 hM.fx.2.1 dL_put_4 rfl (lv_at hl 2 rfl) ?_
  have hr := r_runVD (e := e) (below := below) (meth := meth) (R := { frames := 8, cells := 2, slots := 12, locals := 147 }) (As := [.int (gi x1), .int (gi x2)]) (b := 1) (t := 8) (rest := [.int (gi 0), .ref (w.1 + 864)]) (cells := 0) (slots := 0) (ls := ls) hM hH cvL_put (mX8_put gLC_main hl9 (g := gsh) (by decide +kernel) hr1 hr2 hf) ⟨by decide, by decide, by decide +kernel⟩ (by decide) rfl rfl rfl hl.1 rfl (Nat.le_of_ble_eq_true rfl) ⟨Nat.le_of_ble_eq_true rfl, Nat.le_of_ble_eq_true rfl⟩ ⟨Nat.le_of_ble_eq_true rfl, Nat.le_of_ble_eq_true rfl⟩ dL_put_5
  cases res with
  | inl x =>
    rcases he x rfl with rfl | rfl
    · skip
      refine r_goC (P := _) (oc := .inl (gEx 3)) hM hH rfl hr [] ⟨0, 10, 13, 25⟩ [⟨0, 10, 17, 19⟩] (by rw [tb]; rfl) (fun z hz => by cases hz) (by rfl) (by decide) gl_954 gl_965 (fun q H locs hH => ?_)
      refine lv_astore (lv' := [(4, .ref q), (0, .ref (w.1 + 1)), (1, .int (gi x1)), (2, .int (gi x2)), (3, .ref (w.1 + 864))]) hM.fx.1 hM.fx.2.1 dL_put_13 hl (by decide) rfl (fun ls hl => ?_)
      refine lv_iconst (v := gi (1)) hM.fx.1 hM.fx.2.1 dL_put_15 rfl ?_
      exact d_iret hM rt lk hH (fun z h => (by cases h)) ⟨Nat.le_of_ble_eq_true rfl, Nat.le_of_ble_eq_true rfl⟩ dL_put_16
    · skip
      refine r_goC (P := _) (oc := .inl (gEx 2)) hM hH rfl hr [⟨0, 10, 13, 25⟩] ⟨0, 10, 17, 19⟩ [] (by rw [tb]; rfl) (fun z hz => by
          rcases List.mem_singleton.mp hz with rfl
          exact ⟨by decide, gEx 3, gl_954, hM.nc.1⟩) (by rfl) (by decide) gl_920 gl_937 (fun q H locs hH => ?_)
      refine lv_astore (lv' := [(4, .ref q), (0, .ref (w.1 + 1)), (1, .int (gi x1)), (2, .int (gi x2)), (3, .ref (w.1 + 864))]) hM.fx.1 hM.fx.2.1 dL_put_17 hl (by decide) rfl (fun ls hl => ?_)
      refine lv_iconst (v := gi (2)) hM.fx.1 hM.fx.2.1 dL_put_19 rfl ?_
      exact d_iret hM rt lk hH (fun z h => (by cases h)) ⟨Nat.le_of_ble_eq_true rfl, Nat.le_of_ble_eq_true rfl⟩ dL_put_20
  | inr x =>
    refine r_go1 hH rfl hr (fun hz H locs hH => ?_)
    have hz := hz x rfl
    refine r_i2l hM.fx hz dL_put_8 ?_
    refine r_last (t := 35) hM.fx hM.kf hH ⟨by decide, by decide, by decide +kernel⟩ ⟨by decide, by decide⟩ (gcR (k := 0) (by decide)) ⟨by decide, by decide⟩ (gRI_L hz) dL_put_9 (fun H locs hH => ?_)
    refine lv_goto (tgt := 21) hM.fx.1 hM.fx.2.1 dL_put_10 (by decide) ?_
    refine lv_iconst (v := gi (0)) hM.fx.1 hM.fx.2.1 dL_put_21 rfl ?_
    exact d_iret hM rt lk hH (fun z h => (by cases h; exact hz)) ⟨Nat.le_of_ble_eq_true rfl, Nat.le_of_ble_eq_true rfl⟩ dL_put_22
theorem gl_1140 : Cond.codeWith yL_hand cL_hand 5 (some .int) [(0, 10, 13, 25)] ∈ gG := gG_in 1140 (by decide +kernel) (by decide +kernel)
theorem gl_1141 : Cond.methodLink RL 74 yX8_hand ∈ gG := gG_in 1141 (by decide +kernel) (by decide +kernel)
theorem gl_1142 : Cond.instanceMethod yX8_hand ∈ gG := gG_in 1142 (by decide +kernel) (by decide +kernel)
theorem gl_1143 : Cond.selects yX8_hand.cls yX8_hand yX8_hand ∈ gG := gG_in 1143 (by decide +kernel) (by decide +kernel)
theorem gl_1144 : Cond.code yX8_hand cX8_hand 5 (some .int) ∈ gG := gG_in 1144 (by decide +kernel) (by decide +kernel)
theorem cvL_hand : gCV RL 74 yX8_hand cX8_hand 5 (some .int) 2 := ⟨gl_1141, gl_1142, gl_1143, gl_92, gl_1144, by decide +kernel⟩
set_option maxHeartbeats 4000000 in
set_option maxRecDepth 100000 in
theorem wL_hand {w : gW} {l : Launch} (hl9 : l.stackTraces = false) {x1 x2 : Int} {M M1 : gMem} {res : Nat ⊕ Int} (hr1 : gRI x1) (hr2 : gRI x2) (hf : fX8_hand gsh 1 x1 x2 M = some (res, M1)) (he : ∀ e, res = .inl e → e = 3) : gLT w gN gRm l yL_hand cL_hand 5 [(0, 10, 13, 25)] 8 148 2 12 [.ref (w.1 + 1), .int (gi x1), .int (gi x2), .ref (w.1 + 864)] M (qThr 3 res) (gWm res M1) (∀ z, res = .inr z → gRI z) := by
  refine gLT.of hl9 (by decide +kernel) (Nat.le_of_ble_eq_true rfl) ?_
  intro p e s m below meth c hM tb rt lk hH ls hl
  have hM : gMD w p l s m ([.ref (w.1 + 1), .int (gi x1), .int (gi x2), .ref (w.1 + 864)] : List Value).toArray c cL_hand 5 RL := hM
  have hl : lv_has ls 5 [(0, .ref (w.1 + 1)), (1, .int (gi x1)), (2, .int (gi x2)), (3, .ref (w.1 + 864))] := hl
  refine lv_aload_n hM.fx.1 hM.fx.2.1 dL_hand_0 rfl (lv_at hl 3 rfl) ?_
  refine lv_iconst (v := gi (0)) hM.fx.1 hM.fx.2.1 dL_hand_1 rfl ?_
  refine lv_aload_n hM.fx.1 hM.fx.2.1 dL_hand_2 rfl (lv_at hl 0 rfl) ?_
  refine lv_iload_n hM.fx.1 hM.fx.2.1 dL_hand_3 rfl (lv_at hl 1 rfl) ?_
  refine lv_iload_n hM.fx.1 hM.fx.2.1 dL_hand_4 rfl (lv_at hl 2 rfl) ?_
  have hr := r_runVD (e := e) (below := below) (meth := meth) (R := { frames := 8, cells := 2, slots := 12, locals := 148 }) (As := [.int (gi x1), .int (gi x2)]) (b := 1) (t := 8) (rest := [.int (gi 0), .ref (w.1 + 864)]) (cells := 0) (slots := 0) (ls := ls) hM hH cvL_hand (mX8_hand gLC_main hl9 (g := gsh) (by decide +kernel) hr1 hr2 hf) ⟨by decide, by decide, by decide +kernel⟩ (by decide) rfl rfl rfl hl.1 rfl (Nat.le_of_ble_eq_true rfl) ⟨Nat.le_of_ble_eq_true rfl, Nat.le_of_ble_eq_true rfl⟩ ⟨Nat.le_of_ble_eq_true rfl, Nat.le_of_ble_eq_true rfl⟩ dL_hand_5
  cases res with
  | inl x =>
    obtain rfl := he x rfl
    refine r_goC (P := _) (oc := .inl (gEx 3)) hM hH rfl hr [] ⟨0, 10, 13, 25⟩ [] (by rw [tb]; rfl) (fun z hz => by cases hz) (by rfl) (by decide) gl_954 gl_965 (fun q H locs hH => ?_)
    refine lv_astore (lv' := [(4, .ref q), (0, .ref (w.1 + 1)), (1, .int (gi x1)), (2, .int (gi x2)), (3, .ref (w.1 + 864))]) hM.fx.1 hM.fx.2.1 dL_hand_13 hl (by decide) rfl (fun ls hl => ?_)
    refine lv_iconst (v := gi (1)) hM.fx.1 hM.fx.2.1 dL_hand_15 rfl ?_
    exact d_iret hM rt lk hH (fun z h => (by cases h)) ⟨Nat.le_of_ble_eq_true rfl, Nat.le_of_ble_eq_true rfl⟩ dL_hand_16
  | inr x =>
    refine r_go1 hH rfl hr (fun hz H locs hH => ?_)
    have hz := hz x rfl
    refine r_i2l hM.fx hz dL_hand_8 ?_
    refine r_last (t := 35) hM.fx hM.kf hH ⟨by decide, by decide, by decide +kernel⟩ ⟨by decide, by decide⟩ (gcR (k := 0) (by decide)) ⟨by decide, by decide⟩ (gRI_L hz) dL_hand_9 (fun H locs hH => ?_)
    refine lv_goto (tgt := 17) hM.fx.1 hM.fx.2.1 dL_hand_10 (by decide) ?_
    refine lv_iconst (v := gi (0)) hM.fx.1 hM.fx.2.1 dL_hand_17 rfl ?_
    exact d_iret hM rt lk hH (fun z h => (by cases h; exact hz)) ⟨Nat.le_of_ble_eq_true rfl, Nat.le_of_ble_eq_true rfl⟩ dL_hand_18
theorem gl_1149 : Cond.codeWith yL_kill cL_kill 4 (some .int) [(0, 9, 12, 25)] ∈ gG := gG_in 1149 (by decide +kernel) (by decide +kernel)
theorem gl_1150 : Cond.methodLink RL 77 yX8_kill ∈ gG := gG_in 1150 (by decide +kernel) (by decide +kernel)
theorem gl_1151 : Cond.instanceMethod yX8_kill ∈ gG := gG_in 1151 (by decide +kernel) (by decide +kernel)
theorem gl_1152 : Cond.selects yX8_kill.cls yX8_kill yX8_kill ∈ gG := gG_in 1152 (by decide +kernel) (by decide +kernel)
theorem gl_1153 : Cond.code yX8_kill cX8_kill 5 (some .int) ∈ gG := gG_in 1153 (by decide +kernel) (by decide +kernel)
theorem cvL_kill : gCV RL 77 yX8_kill cX8_kill 5 (some .int) 1 := ⟨gl_1150, gl_1151, gl_1152, gl_92, gl_1153, by decide +kernel⟩
set_option maxHeartbeats 4000000 in
set_option maxRecDepth 100000 in
theorem wL_kill {w : gW} {l : Launch} (hl9 : l.stackTraces = false) {x1 : Int} {M M1 : gMem} {res : Nat ⊕ Int} (hr1 : gRI x1) (hf : fX8_kill gsh 1 x1 M = some (res, M1)) (he : ∀ e, res = .inl e → e = 3) : gLT w gN gRm l yL_kill cL_kill 4 [(0, 9, 12, 25)] 8 148 1 6 [.ref (w.1 + 1), .int (gi x1), .ref (w.1 + 864)] M (qThr 3 res) (gWm res M1) (∀ z, res = .inr z → gRI z) := by
  refine gLT.of hl9 (by decide +kernel) (Nat.le_of_ble_eq_true rfl) ?_
  intro p e s m below meth c hM tb rt lk hH ls hl
  have hM : gMD w p l s m ([.ref (w.1 + 1), .int (gi x1), .ref (w.1 + 864)] : List Value).toArray c cL_kill 4 RL := hM
  have hl : lv_has ls 4 [(0, .ref (w.1 + 1)), (1, .int (gi x1)), (2, .ref (w.1 + 864))] := hl
  refine lv_aload_n hM.fx.1 hM.fx.2.1 dL_kill_0 rfl (lv_at hl 2 rfl) ?_
  refine lv_iconst (v := gi (0)) hM.fx.1 hM.fx.2.1 dL_kill_1 rfl ?_
  refine lv_aload_n hM.fx.1 hM.fx.2.1 dL_kill_2 rfl (lv_at hl 0 rfl) ?_
  refine lv_iload_n hM.fx.1 hM.fx.2.1 dL_kill_3 rfl (lv_at hl 1 rfl) ?_
  have hr := r_runVD (e := e) (below := below) (meth := meth) (R := { frames := 8, cells := 1, slots := 6, locals := 148 }) (As := [.int (gi x1)]) (b := 1) (t := 8) (rest := [.int (gi 0), .ref (w.1 + 864)]) (cells := 0) (slots := 0) (ls := ls) hM hH cvL_kill (mX8_kill gLC_main hl9 (g := gsh) (by decide +kernel) hr1 hf) ⟨by decide, by decide, by decide +kernel⟩ (by decide) rfl rfl rfl hl.1 rfl (Nat.le_of_ble_eq_true rfl) ⟨Nat.le_of_ble_eq_true rfl, Nat.le_of_ble_eq_true rfl⟩ ⟨Nat.le_of_ble_eq_true rfl, Nat.le_of_ble_eq_true rfl⟩ dL_kill_4
  cases res with
  | inl x =>
    obtain rfl := he x rfl
    refine r_goC (P := _) (oc := .inl (gEx 3)) hM hH rfl hr [] ⟨0, 9, 12, 25⟩ [] (by rw [tb]; rfl) (fun z hz => by cases hz) (by rfl) (by decide) gl_954 gl_965 (fun q H locs hH => ?_)
    refine lv_astore_n (lv' := [(3, .ref q), (0, .ref (w.1 + 1)), (1, .int (gi x1)), (2, .ref (w.1 + 864))]) hM.fx.1 hM.fx.2.1 dL_kill_12 rfl hl (by decide) rfl (fun ls hl => ?_)
    refine lv_iconst (v := gi (1)) hM.fx.1 hM.fx.2.1 dL_kill_13 rfl ?_
    exact d_iret hM rt lk hH (fun z h => (by cases h)) ⟨Nat.le_of_ble_eq_true rfl, Nat.le_of_ble_eq_true rfl⟩ dL_kill_14
  | inr x =>
    refine r_go1 hH rfl hr (fun hz H locs hH => ?_)
    have hz := hz x rfl
    refine r_i2l hM.fx hz dL_kill_7 ?_
    refine r_last (t := 35) hM.fx hM.kf hH ⟨by decide, by decide, by decide +kernel⟩ ⟨by decide, by decide⟩ (gcR (k := 0) (by decide)) ⟨by decide, by decide⟩ (gRI_L hz) dL_kill_8 (fun H locs hH => ?_)
    refine lv_goto (tgt := 15) hM.fx.1 hM.fx.2.1 dL_kill_9 (by decide) ?_
    refine lv_iconst (v := gi (0)) hM.fx.1 hM.fx.2.1 dL_kill_15 rfl ?_
    exact d_iret hM rt lk hH (fun z h => (by cases h; exact hz)) ⟨Nat.le_of_ble_eq_true rfl, Nat.le_of_ble_eq_true rfl⟩ dL_kill_16
theorem gl_1161 : Cond.codeWith yL_wake cL_wake 4 (some .int) [(0, 9, 12, 25)] ∈ gG := gG_in 1161 (by decide +kernel) (by decide +kernel)
theorem gl_1162 : Cond.methodLink RL 80 yX8_wake ∈ gG := gG_in 1162 (by decide +kernel) (by decide +kernel)
theorem gl_1163 : Cond.instanceMethod yX8_wake ∈ gG := gG_in 1163 (by decide +kernel) (by decide +kernel)
theorem gl_1164 : Cond.selects yX8_wake.cls yX8_wake yX8_wake ∈ gG := gG_in 1164 (by decide +kernel) (by decide +kernel)
theorem gl_1165 : Cond.code yX8_wake cX8_wake 4 (some .int) ∈ gG := gG_in 1165 (by decide +kernel) (by decide +kernel)
theorem cvL_wake : gCV RL 80 yX8_wake cX8_wake 4 (some .int) 1 := ⟨gl_1162, gl_1163, gl_1164, gl_92, gl_1165, by decide +kernel⟩
set_option maxHeartbeats 4000000 in
set_option maxRecDepth 100000 in
theorem wL_wake {w : gW} {l : Launch} (hl9 : l.stackTraces = false) {x1 : Int} {M M1 : gMem} {res : Nat ⊕ Int} (hr1 : gRI x1) (hf : fX8_wake gsh 1 x1 M = some (res, M1)) (he : ∀ e, res = .inl e → e = 3) : gLT w gN gRm l yL_wake cL_wake 4 [(0, 9, 12, 25)] 8 147 1 6 [.ref (w.1 + 1), .int (gi x1), .ref (w.1 + 864)] M (qThr 3 res) (gWm res M1) (∀ z, res = .inr z → gRI z) := by
  refine gLT.of hl9 (by decide +kernel) (Nat.le_of_ble_eq_true rfl) ?_
  intro p e s m below meth c hM tb rt lk hH ls hl
  have hM : gMD w p l s m ([.ref (w.1 + 1), .int (gi x1), .ref (w.1 + 864)] : List Value).toArray c cL_wake 4 RL := hM
  have hl : lv_has ls 4 [(0, .ref (w.1 + 1)), (1, .int (gi x1)), (2, .ref (w.1 + 864))] := hl
  refine lv_aload_n hM.fx.1 hM.fx.2.1 dL_wake_0 rfl (lv_at hl 2 rfl) ?_
  refine lv_iconst (v := gi (0)) hM.fx.1 hM.fx.2.1 dL_wake_1 rfl ?_
  refine lv_aload_n hM.fx.1 hM.fx.2.1 dL_wake_2 rfl (lv_at hl 0 rfl) ?_
  refine lv_iload_n hM.fx.1 hM.fx.2.1 dL_wake_3 rfl (lv_at hl 1 rfl) ?_
  have hr := r_runVD (e := e) (below := below) (meth := meth) (R := { frames := 8, cells := 1, slots := 6, locals := 147 }) (As := [.int (gi x1)]) (b := 1) (t := 8) (rest := [.int (gi 0), .ref (w.1 + 864)]) (cells := 0) (slots := 0) (ls := ls) hM hH cvL_wake (mX8_wake gLC_main hl9 (g := gsh) (by decide +kernel) hr1 hf) ⟨by decide, by decide, by decide +kernel⟩ (by decide) rfl rfl rfl hl.1 rfl (Nat.le_of_ble_eq_true rfl) ⟨Nat.le_of_ble_eq_true rfl, Nat.le_of_ble_eq_true rfl⟩ ⟨Nat.le_of_ble_eq_true rfl, Nat.le_of_ble_eq_true rfl⟩ dL_wake_4
  cases res with
  | inl x =>
    obtain rfl := he x rfl
    refine r_goC (P := _) (oc := .inl (gEx 3)) hM hH rfl hr [] ⟨0, 9, 12, 25⟩ [] (by rw [tb]; rfl) (fun z hz => by cases hz) (by rfl) (by decide) gl_954 gl_965 (fun q H locs hH => ?_)
    refine lv_astore_n (lv' := [(3, .ref q), (0, .ref (w.1 + 1)), (1, .int (gi x1)), (2, .ref (w.1 + 864))]) hM.fx.1 hM.fx.2.1 dL_wake_12 rfl hl (by decide) rfl (fun ls hl => ?_)
    refine lv_iconst (v := gi (1)) hM.fx.1 hM.fx.2.1 dL_wake_13 rfl ?_
    exact d_iret hM rt lk hH (fun z h => (by cases h)) ⟨Nat.le_of_ble_eq_true rfl, Nat.le_of_ble_eq_true rfl⟩ dL_wake_14
  | inr x =>
    refine r_go1 hH rfl hr (fun hz H locs hH => ?_)
    have hz := hz x rfl
    refine r_i2l hM.fx hz dL_wake_7 ?_
    refine r_last (t := 35) hM.fx hM.kf hH ⟨by decide, by decide, by decide +kernel⟩ ⟨by decide, by decide⟩ (gcR (k := 0) (by decide)) ⟨by decide, by decide⟩ (gRI_L hz) dL_wake_8 (fun H locs hH => ?_)
    refine lv_goto (tgt := 15) hM.fx.1 hM.fx.2.1 dL_wake_9 (by decide) ?_
    refine lv_iconst (v := gi (0)) hM.fx.1 hM.fx.2.1 dL_wake_15 rfl ?_
    exact d_iret hM rt lk hH (fun z h => (by cases h; exact hz)) ⟨Nat.le_of_ble_eq_true rfl, Nat.le_of_ble_eq_true rfl⟩ dL_wake_16
theorem gl_1168 : Cond.codeWith yL_undo cL_undo 3 (some .int) [(0, 8, 11, 13)] ∈ gG := gG_in 1168 (by decide +kernel) (by decide +kernel)
theorem gl_1169 : Cond.methodLink RL 83 yX8_undo ∈ gG := gG_in 1169 (by decide +kernel) (by decide +kernel)
theorem gl_1170 : Cond.instanceMethod yX8_undo ∈ gG := gG_in 1170 (by decide +kernel) (by decide +kernel)
theorem gl_1171 : Cond.selects yX8_undo.cls yX8_undo yX8_undo ∈ gG := gG_in 1171 (by decide +kernel) (by decide +kernel)
theorem gl_1172 : Cond.code yX8_undo cX8_undo 1 (some .int) ∈ gG := gG_in 1172 (by decide +kernel) (by decide +kernel)
theorem cvL_undo : gCV RL 83 yX8_undo cX8_undo 1 (some .int) 0 := ⟨gl_1169, gl_1170, gl_1171, gl_92, gl_1172, by decide +kernel⟩
set_option maxHeartbeats 4000000 in
set_option maxRecDepth 100000 in
theorem wL_undo {w : gW} {l : Launch} (hl9 : l.stackTraces = false) {M M1 : gMem} {res : Nat ⊕ Int}  (hf : fX8_undo gsh 1  M = some (res, M1)) (he : ∀ e, res = .inl e → e = 1) : gLT w gN gRm l yL_undo cL_undo 3 [(0, 8, 11, 13)] 7 144 1 6 [.ref (w.1 + 1), .ref (w.1 + 864)] M (qThr 1 res) (gWm res M1) (∀ z, res = .inr z → gRI z) := by
  refine gLT.of hl9 (by decide +kernel) (Nat.le_of_ble_eq_true rfl) ?_
  intro p e s m below meth c hM tb rt lk hH ls hl
  have hM : gMD w p l s m ([.ref (w.1 + 1), .ref (w.1 + 864)] : List Value).toArray c cL_undo 3 RL := hM
  have hl : lv_has ls 3 [(0, .ref (w.1 + 1)), (1, .ref (w.1 + 864))] := hl
  refine lv_aload_n hM.fx.1 hM.fx.2.1 dL_undo_0 rfl (lv_at hl 1 rfl) ?_
  refine lv_iconst (v := gi (0)) hM.fx.1 hM.fx.2.1 dL_undo_1 rfl ?_
  refine lv_aload_n hM.fx.1 hM.fx.2.1 dL_undo_2 rfl (lv_at hl 0 rfl) ?_
  have hr := r_runVD (e := e) (below := below) (meth := meth) (R := { frames := 7, cells := 1, slots := 6, locals := 144 }) (As := []) (b := 1) (t := 8) (rest := [.int (gi 0), .ref (w.1 + 864)]) (cells := 0) (slots := 0) (ls := ls) hM hH cvL_undo (mX8_undo gLC_main hl9 (g := gsh) (by decide +kernel)  hf) ⟨by decide, by decide, by decide +kernel⟩ (by decide) rfl rfl rfl hl.1 rfl (Nat.le_of_ble_eq_true rfl) ⟨Nat.le_of_ble_eq_true rfl, Nat.le_of_ble_eq_true rfl⟩ ⟨Nat.le_of_ble_eq_true rfl, Nat.le_of_ble_eq_true rfl⟩ dL_undo_3
  cases res with
  | inl x =>
    obtain rfl := he x rfl
    refine r_goC (P := _) (oc := .inl (gEx 1)) hM hH rfl hr [] ⟨0, 8, 11, 13⟩ [] (by rw [tb]; rfl) (fun z hz => by cases hz) (by rfl) (by decide) gl_838 gl_848 (fun q H locs hH => ?_)
    refine lv_astore_n (lv' := [(2, .ref q), (0, .ref (w.1 + 1)), (1, .ref (w.1 + 864))]) hM.fx.1 hM.fx.2.1 dL_undo_11 rfl hl (by decide) rfl (fun ls hl => ?_)
    refine lv_iconst (v := gi (1)) hM.fx.1 hM.fx.2.1 dL_undo_12 rfl ?_
    exact d_iret hM rt lk hH (fun z h => (by cases h)) ⟨Nat.le_of_ble_eq_true rfl, Nat.le_of_ble_eq_true rfl⟩ dL_undo_13
  | inr x =>
    refine r_go1 hH rfl hr (fun hz H locs hH => ?_)
    have hz := hz x rfl
    refine r_i2l hM.fx hz dL_undo_6 ?_
    refine r_last (t := 35) hM.fx hM.kf hH ⟨by decide, by decide, by decide +kernel⟩ ⟨by decide, by decide⟩ (gcR (k := 0) (by decide)) ⟨by decide, by decide⟩ (gRI_L hz) dL_undo_7 (fun H locs hH => ?_)
    refine lv_goto (tgt := 14) hM.fx.1 hM.fx.2.1 dL_undo_8 (by decide) ?_
    refine lv_iconst (v := gi (0)) hM.fx.1 hM.fx.2.1 dL_undo_14 rfl ?_
    exact d_iret hM rt lk hH (fun z h => (by cases h; exact hz)) ⟨Nat.le_of_ble_eq_true rfl, Nat.le_of_ble_eq_true rfl⟩ dL_undo_15
theorem gl_1188 : Cond.codeWith yL_restore cL_restore 4 (some .int) [(0, 9, 12, 25), (0, 9, 15, 13)] ∈ gG := gG_in 1188 (by decide +kernel) (by decide +kernel)
theorem gl_1189 : Cond.methodLink RL 91 yX8_restore ∈ gG := gG_in 1189 (by decide +kernel) (by decide +kernel)
theorem gl_1190 : Cond.instanceMethod yX8_restore ∈ gG := gG_in 1190 (by decide +kernel) (by decide +kernel)
theorem gl_1191 : Cond.selects yX8_restore.cls yX8_restore yX8_restore ∈ gG := gG_in 1191 (by decide +kernel) (by decide +kernel)
theorem gl_1192 : Cond.code yX8_restore cX8_restore 2 (some .int) ∈ gG := gG_in 1192 (by decide +kernel) (by decide +kernel)
theorem cvL_restore : gCV RL 91 yX8_restore cX8_restore 2 (some .int) 1 := ⟨gl_1189, gl_1190, gl_1191, gl_92, gl_1192, by decide +kernel⟩
set_option maxHeartbeats 4000000 in
set_option maxRecDepth 100000 in
theorem wL_restore {w : gW} {l : Launch} (hl9 : l.stackTraces = false) {x1 : Int} {M M1 : gMem} {res : Nat ⊕ Int} (hr1 : gRI x1) (hf : fX8_restore gsh 1 x1 M = some (res, M1)) (he : ∀ e, res = .inl e → e = 3 ∨ e = 1) : gLT w gN gRm l yL_restore cL_restore 4 [(0, 9, 12, 25), (0, 9, 15, 13)] 7 145 2 12 [.ref (w.1 + 1), .int (gi x1), .ref (w.1 + 864)] M (qThr 3 res) (gWm res M1) (∀ z, res = .inr z → gRI z) := by
  refine gLT.of hl9 (by decide +kernel) (Nat.le_of_ble_eq_true rfl) ?_
  intro p e s m below meth c hM tb rt lk hH ls hl
  have hM : gMD w p l s m ([.ref (w.1 + 1), .int (gi x1), .ref (w.1 + 864)] : List Value).toArray c cL_restore 4 RL := hM
  have hl : lv_has ls 4 [(0, .ref (w.1 + 1)), (1, .int (gi x1)), (2, .ref (w.1 + 864))] := hl
  refine lv_aload_n hM.fx.1 hM.fx.2.1 dL_restore_0 rfl (lv_at hl 2 rfl) ?_
  refine lv_iconst (v := gi (0)) hM.fx.1 hM.fx.2.1 dL_restore_1 rfl ?_
  refine lv_aload_n hM.fx.1 hM.fx.2.1 dL_restore_2 rfl (lv_at hl 0 rfl) ?_
  refine lv_iload_n hM.fx.1 hM.fx.2.1 dL_restore_3 rfl (lv_at hl 1 rfl) ?_
  have hr := r_runVD (e := e) (below := below) (meth := meth) (R := { frames := 7, cells := 2, slots := 12, locals := 145 }) (As := [.int (gi x1)]) (b := 1) (t := 8) (rest := [.int (gi 0), .ref (w.1 + 864)]) (cells := 0) (slots := 0) (ls := ls) hM hH cvL_restore (mX8_restore gLC_main hl9 (g := gsh) (by decide +kernel) hr1 hf) ⟨by decide, by decide, by decide +kernel⟩ (by decide) rfl rfl rfl hl.1 rfl (Nat.le_of_ble_eq_true rfl) ⟨Nat.le_of_ble_eq_true rfl, Nat.le_of_ble_eq_true rfl⟩ ⟨Nat.le_of_ble_eq_true rfl, Nat.le_of_ble_eq_true rfl⟩ dL_restore_4
  cases res with
  | inl x =>
    rcases he x rfl with rfl | rfl
    · skip
      refine r_goC (P := _) (oc := .inl (gEx 3)) hM hH rfl hr [] ⟨0, 9, 12, 25⟩ [⟨0, 9, 15, 13⟩] (by rw [tb]; rfl) (fun z hz => by cases hz) (by rfl) (by decide) gl_954 gl_965 (fun q H locs hH => ?_)
      refine lv_astore_n (lv' := [(3, .ref q), (0, .ref (w.1 + 1)), (1, .int (gi x1)), (2, .ref (w.1 + 864))]) hM.fx.1 hM.fx.2.1 dL_restore_12 rfl hl (by decide) rfl (fun ls hl => ?_)
      refine lv_iconst (v := gi (1)) hM.fx.1 hM.fx.2.1 dL_restore_13 rfl ?_
      exact d_iret hM rt lk hH (fun z h => (by cases h)) ⟨Nat.le_of_ble_eq_true rfl, Nat.le_of_ble_eq_true rfl⟩ dL_restore_14
    · skip
      refine r_goC (P := _) (oc := .inl (gEx 1)) hM hH rfl hr [⟨0, 9, 12, 25⟩] ⟨0, 9, 15, 13⟩ [] (by rw [tb]; rfl) (fun z hz => by
          rcases List.mem_singleton.mp hz with rfl
          exact ⟨by decide, gEx 3, gl_954, hM.nc.2⟩) (by rfl) (by decide) gl_838 gl_848 (fun q H locs hH => ?_)
      refine lv_astore_n (lv' := [(3, .ref q), (0, .ref (w.1 + 1)), (1, .int (gi x1)), (2, .ref (w.1 + 864))]) hM.fx.1 hM.fx.2.1 dL_restore_15 rfl hl (by decide) rfl (fun ls hl => ?_)
      refine lv_iconst (v := gi (2)) hM.fx.1 hM.fx.2.1 dL_restore_16 rfl ?_
      exact d_iret hM rt lk hH (fun z h => (by cases h)) ⟨Nat.le_of_ble_eq_true rfl, Nat.le_of_ble_eq_true rfl⟩ dL_restore_17
  | inr x =>
    refine r_go1 hH rfl hr (fun hz H locs hH => ?_)
    have hz := hz x rfl
    refine r_i2l hM.fx hz dL_restore_7 ?_
    refine r_last (t := 35) hM.fx hM.kf hH ⟨by decide, by decide, by decide +kernel⟩ ⟨by decide, by decide⟩ (gcR (k := 0) (by decide)) ⟨by decide, by decide⟩ (gRI_L hz) dL_restore_8 (fun H locs hH => ?_)
    refine lv_goto (tgt := 18) hM.fx.1 hM.fx.2.1 dL_restore_9 (by decide) ?_
    refine lv_iconst (v := gi (0)) hM.fx.1 hM.fx.2.1 dL_restore_18 rfl ?_
    exact d_iret hM rt lk hH (fun z h => (by cases h; exact hz)) ⟨Nat.le_of_ble_eq_true rfl, Nat.le_of_ble_eq_true rfl⟩ dL_restore_19
theorem gl_1196 : Cond.codeWith yL_writtenByte cL_writtenByte 4 (some .int) [(0, 9, 12, 25)] ∈ gG := gG_in 1196 (by decide +kernel) (by decide +kernel)
theorem gl_1197 : Cond.methodLink RL 94 yX8_writtenByte ∈ gG := gG_in 1197 (by decide +kernel) (by decide +kernel)
theorem gl_1198 : Cond.instanceMethod yX8_writtenByte ∈ gG := gG_in 1198 (by decide +kernel) (by decide +kernel)
theorem gl_1199 : Cond.selects yX8_writtenByte.cls yX8_writtenByte yX8_writtenByte ∈ gG := gG_in 1199 (by decide +kernel) (by decide +kernel)
theorem gl_1200 : Cond.code yX8_writtenByte cX8_writtenByte 2 (some .int) ∈ gG := gG_in 1200 (by decide +kernel) (by decide +kernel)
theorem cvL_writtenByte : gCV RL 94 yX8_writtenByte cX8_writtenByte 2 (some .int) 1 := ⟨gl_1197, gl_1198, gl_1199, gl_92, gl_1200, by decide +kernel⟩
set_option maxHeartbeats 4000000 in
set_option maxRecDepth 100000 in
theorem wL_writtenByte {w : gW} {l : Launch} (hl9 : l.stackTraces = false) {x1 : Int} {M : gMem} {res : Nat ⊕ Int} (hr1 : gRI x1) (hf : fX8_writtenByte gsh 1 x1 M = some res) (he : ∀ e, res = .inl e → e = 3) : gLT w gN gRm l yL_writtenByte cL_writtenByte 4 [(0, 9, 12, 25)] 7 121 1 6 [.ref (w.1 + 1), .int (gi x1), .ref (w.1 + 864)] M (qThr 3 res) (gWm res M) (∀ z, res = .inr z → gRI z) := by
  refine gLT.of hl9 (by decide +kernel) (Nat.le_of_ble_eq_true rfl) ?_
  intro p e s m below meth c hM tb rt lk hH ls hl
  have hM : gMD w p l s m ([.ref (w.1 + 1), .int (gi x1), .ref (w.1 + 864)] : List Value).toArray c cL_writtenByte 4 RL := hM
  have hl : lv_has ls 4 [(0, .ref (w.1 + 1)), (1, .int (gi x1)), (2, .ref (w.1 + 864))] := hl
  refine lv_aload_n hM.fx.1 hM.fx.2.1 dL_writtenByte_0 rfl (lv_at hl 2 rfl) ?_
  refine lv_iconst (v := gi (0)) hM.fx.1 hM.fx.2.1 dL_writtenByte_1 rfl ?_
  refine lv_aload_n hM.fx.1 hM.fx.2.1 dL_writtenByte_2 rfl (lv_at hl 0 rfl) ?_
  refine lv_iload_n hM.fx.1 hM.fx.2.1 dL_writtenByte_3 rfl (lv_at hl 1 rfl) ?_
  have hr := r_runVD (e := e) (below := below) (meth := meth) (R := { frames := 7, cells := 1, slots := 6, locals := 121 }) (As := [.int (gi x1)]) (b := 1) (t := 8) (rest := [.int (gi 0), .ref (w.1 + 864)]) (cells := 0) (slots := 0) (ls := ls) hM hH cvL_writtenByte (mX8_writtenByte gLC_main hl9 (g := gsh) (by decide +kernel) hr1 hf) ⟨by decide, by decide, by decide +kernel⟩ (by decide) rfl rfl rfl hl.1 rfl (Nat.le_of_ble_eq_true rfl) ⟨Nat.le_of_ble_eq_true rfl, Nat.le_of_ble_eq_true rfl⟩ ⟨Nat.le_of_ble_eq_true rfl, Nat.le_of_ble_eq_true rfl⟩ dL_writtenByte_4
  cases res with
  | inl x =>
    obtain rfl := he x rfl
    refine r_goC (P := _) (oc := .inl (gEx 3)) hM hH rfl hr [] ⟨0, 9, 12, 25⟩ [] (by rw [tb]; rfl) (fun z hz => by cases hz) (by rfl) (by decide) gl_954 gl_965 (fun q H locs hH => ?_)
    refine lv_astore_n (lv' := [(3, .ref q), (0, .ref (w.1 + 1)), (1, .int (gi x1)), (2, .ref (w.1 + 864))]) hM.fx.1 hM.fx.2.1 dL_writtenByte_12 rfl hl (by decide) rfl (fun ls hl => ?_)
    refine lv_iconst (v := gi (1)) hM.fx.1 hM.fx.2.1 dL_writtenByte_13 rfl ?_
    exact d_iret hM rt lk hH (fun z h => (by cases h)) ⟨Nat.le_of_ble_eq_true rfl, Nat.le_of_ble_eq_true rfl⟩ dL_writtenByte_14
  | inr x =>
    refine r_go1 hH rfl hr (fun hz H locs hH => ?_)
    have hz := hz x rfl
    refine r_i2l hM.fx hz dL_writtenByte_7 ?_
    refine r_last (t := 35) hM.fx hM.kf hH ⟨by decide, by decide, by decide +kernel⟩ ⟨by decide, by decide⟩ (gcR (k := 0) (by decide)) ⟨by decide, by decide⟩ (gRI_L hz) dL_writtenByte_8 (fun H locs hH => ?_)
    refine lv_goto (tgt := 15) hM.fx.1 hM.fx.2.1 dL_writtenByte_9 (by decide) ?_
    refine lv_iconst (v := gi (0)) hM.fx.1 hM.fx.2.1 dL_writtenByte_15 rfl ?_
    exact d_iret hM rt lk hH (fun z h => (by cases h; exact hz)) ⟨Nat.le_of_ble_eq_true rfl, Nat.le_of_ble_eq_true rfl⟩ dL_writtenByte_16
theorem gl_1180 : Cond.codeWith yL_save cL_save 3 (some .int) [(0, 5, 8, 25)] ∈ gG := gG_in 1180 (by decide +kernel) (by decide +kernel)
theorem gl_1181 : Cond.methodLink RL 87 yX8_save ∈ gG := gG_in 1181 (by decide +kernel) (by decide +kernel)
theorem gl_1182 : Cond.instanceMethod yX8_save ∈ gG := gG_in 1182 (by decide +kernel) (by decide +kernel)
theorem gl_1183 : Cond.selects yX8_save.cls yX8_save yX8_save ∈ gG := gG_in 1183 (by decide +kernel) (by decide +kernel)
theorem gl_1184 : Cond.code yX8_save cX8_save 2 none ∈ gG := gG_in 1184 (by decide +kernel) (by decide +kernel)
theorem cvL_save : gCV RL 87 yX8_save cX8_save 2 none 1 := ⟨gl_1181, gl_1182, gl_1183, gl_92, gl_1184, by decide +kernel⟩
set_option maxHeartbeats 4000000 in
set_option maxRecDepth 100000 in
theorem wL_save {w : gW} {l : Launch} (hl9 : l.stackTraces = false) {x1 : Int} {M M1 : gMem} {res : Nat ⊕ Unit} (hr1 : gRI x1) (hf : fX8_save gsh 1 x1 M = some (res, M1)) (he : ∀ e, res = .inl e → e = 3) : gLT w gN gRm l yL_save cL_save 3 [(0, 5, 8, 25)] 7 124 1 6 [.ref (w.1 + 1), .int (gi x1)] M ((if res.isLeft then 1 else 0)) (M1) True := by
  refine gLT.of hl9 (by decide +kernel) (Nat.le_of_ble_eq_true rfl) ?_
  intro p e s m below meth c hM tb rt lk hH ls hl
  have hM : gMD w p l s m ([.ref (w.1 + 1), .int (gi x1)] : List Value).toArray c cL_save 3 RL := hM
  have hl : lv_has ls 3 [(0, .ref (w.1 + 1)), (1, .int (gi x1))] := hl
  refine lv_aload_n hM.fx.1 hM.fx.2.1 dL_save_0 rfl (lv_at hl 0 rfl) ?_
  refine lv_iload_n hM.fx.1 hM.fx.2.1 dL_save_1 rfl (lv_at hl 1 rfl) ?_
  have hr := r_runVD (e := e) (below := below) (meth := meth) (R := { frames := 7, cells := 1, slots := 6, locals := 124 }) (As := [.int (gi x1)]) (b := 1) (t := 8) (rest := []) (cells := 0) (slots := 0) (ls := ls) hM hH cvL_save (mX8_save gLC_main hl9 (g := gsh) (by decide +kernel) hr1 hf) ⟨by decide, by decide, by decide +kernel⟩ (by decide) rfl rfl rfl hl.1 rfl (Nat.le_of_ble_eq_true rfl) ⟨Nat.le_of_ble_eq_true rfl, Nat.le_of_ble_eq_true rfl⟩ ⟨Nat.le_of_ble_eq_true rfl, Nat.le_of_ble_eq_true rfl⟩ dL_save_2
  cases res with
  | inl x =>
    obtain rfl := he x rfl
    refine r_goC (P := _) (oc := .inl (gEx 3)) hM hH rfl hr [] ⟨0, 5, 8, 25⟩ [] (by rw [tb]; rfl) (fun z hz => by cases hz) (by rfl) (by decide) gl_954 gl_965 (fun q H locs hH => ?_)
    refine lv_astore_n (lv' := [(2, .ref q), (0, .ref (w.1 + 1)), (1, .int (gi x1))]) hM.fx.1 hM.fx.2.1 dL_save_8 rfl hl (by decide) rfl (fun ls hl => ?_)
    refine lv_iconst (v := gi (1)) hM.fx.1 hM.fx.2.1 dL_save_9 rfl ?_
    exact d_iret hM rt lk hH trivial ⟨Nat.le_of_ble_eq_true rfl, Nat.le_of_ble_eq_true rfl⟩ dL_save_10
  | inr x =>
    refine r_go0 hH rfl hr (fun _ H locs hH => ?_)
    refine lv_goto (tgt := 11) hM.fx.1 hM.fx.2.1 dL_save_5 (by decide) ?_
    refine lv_iconst (v := gi (0)) hM.fx.1 hM.fx.2.1 dL_save_11 rfl ?_
    exact d_iret hM rt lk hH trivial ⟨Nat.le_of_ble_eq_true rfl, Nat.le_of_ble_eq_true rfl⟩ dL_save_12
