/-! Ends of methods, and calls -/
section Ends2
variable {p : Program} {l : Launch} {e : Env} {R : Room} {s : State} {m : MethodId} {args : Array Value} {below : List Frame} {meth : Method} {c : Code} {H : Heap} {locs : List Loc} {cells slots : Nat} {Q : State → Prop}
variable {cc : ByteArray} {nL : Nat} {own : String} {ret : Option FieldType} {w : gW} {n : Nat} {Rm : Nat → Nat → Nat} {M : gMem} {pc : Nat} {ls : Array Slot} {rest : List Value} {mc ms : Nat}
theorem gMC.fx (hM : gMC w p l s m args meth c cc nL own ret) : CallFix p m c cc nL s args gG own := hM.1
theorem gMC.kf (hM : gMC w p l s m args meth c cc nL own ret) : gKF w s := hM.2.1
theorem gMC.ff (hM : gMC w p l s m args meth c cc nL own ret) : gFix w s s.heap := hM.2.2.1
theorem gMC.rt (hM : gMC w p l s m args meth c cc nL own ret) : meth.sig.returnType = ret := hM.2.2.2.1
theorem gMC.lk (hM : gMC w p l s m args meth c cc nL own ret) : meth.locks = false := hM.2.2.2.2.1
theorem gMC.tb (hM : gMC w p l s m args meth c cc nL own ret) : ∀ x ∈ c.exceptionTable.toList, False := hM.2.2.2.2.2.1
theorem gMC.ns (hM : gMC w p l s m args meth c cc nL own ret) : l.stackTraces = false := hM.2.2.2.2.2.2
theorem r_iret (hM : gMC w p l s m args meth c cc nL own (some .int)) (hH : gH w n Rm M s H locs) {v : Int} {P : Prop} (hP : P) (hc : cells ≤ mc ∧ slots ≤ ms) (d : decode cc pc = .ok (.ireturn, 1)) : W p l e R s m args below meth c H locs cells slots (gQ w n Rm below args s mc ms (.inr (some (.int (gi v)))) M P) (F0 m pc ls [.int (gi v)]) :=
  W.widen hc.1 hc.2 (vx_ret (W.iret hM.fx.1 hM.fx.2.1 hM.rt (fun t ht _ => ⟨hP, _, rfl, rfl, ⟨by rw [ht]; exact hH.1, hH.2.2⟩, hH.2.1.F ht⟩) hH.2.1.2.2 d hM.lk))
theorem r_zret (hM : gMC w p l s m args meth c cc nL own (some .boolean)) (hH : gH w n Rm M s H locs) {v : Int} (hv : v = 0 ∨ v = 1) {P : Prop} (hP : P) (hc : cells ≤ mc ∧ slots ≤ ms) (d : decode cc pc = .ok (.ireturn, 1)) : W p l e R s m args below meth c H locs cells slots (gQ w n Rm below args s mc ms (.inr (some (.int (gi v)))) M P) (F0 m pc ls [.int (gi v)]) :=
  W.widen hc.1 hc.2 (vx_ret (W.zret hM.fx.1 hM.fx.2.1 hM.rt (by rcases hv with rfl | rfl <;> rfl) (fun t ht _ => ⟨hP, _, rfl, rfl, ⟨by rw [ht]; exact hH.1, hH.2.2⟩, hH.2.1.F ht⟩) hH.2.1.2.2 d hM.lk))
theorem r_lret (hM : gMC w p l s m args meth c cc nL own (some .long)) (hH : gH w n Rm M s H locs) {v : Int} {P : Prop} (hP : P) (hc : cells ≤ mc ∧ slots ≤ ms) (d : decode cc pc = .ok (.lreturn, 1)) : W p l e R s m args below meth c H locs cells slots (gQ w n Rm below args s mc ms (.inr (some (.long (gj v)))) M P) (F0 m pc ls [.long (gj v)]) :=
  W.widen hc.1 hc.2 (vx_ret (W.lret hM.fx.1 hM.fx.2.1 hM.rt (fun t ht _ => ⟨hP, _, rfl, rfl, ⟨by rw [ht]; exact hH.1, hH.2.2⟩, hH.2.1.F ht⟩) hH.2.1.2.2 d hM.lk))
theorem r_fret (hM : gMC w p l s m args meth c cc nL own (some .float)) (hH : gH w n Rm M s H locs) {v : UInt32} {P : Prop} (hP : P) (hc : cells ≤ mc ∧ slots ≤ ms) (d : decode cc pc = .ok (.freturn, 1)) : W p l e R s m args below meth c H locs cells slots (gQ w n Rm below args s mc ms (.inr (some (.float v))) M P) (F0 m pc ls [.float v]) :=
  W.widen hc.1 hc.2 (vx_ret (W.fret hM.fx.1 hM.fx.2.1 hM.rt (fun t ht _ => ⟨hP, _, rfl, rfl, ⟨by rw [ht]; exact hH.1, hH.2.2⟩, hH.2.1.F ht⟩) hH.2.1.2.2 d hM.lk))
theorem r_dret (hM : gMC w p l s m args meth c cc nL own (some .double)) (hH : gH w n Rm M s H locs) {v : UInt64} {P : Prop} (hP : P) (hc : cells ≤ mc ∧ slots ≤ ms) (d : decode cc pc = .ok (.dreturn, 1)) : W p l e R s m args below meth c H locs cells slots (gQ w n Rm below args s mc ms (.inr (some (.double v))) M P) (F0 m pc ls [.double v]) :=
  W.widen hc.1 hc.2 (vx_ret (W.dret hM.fx.1 hM.fx.2.1 hM.rt (fun t ht _ => ⟨hP, _, rfl, rfl, ⟨by rw [ht]; exact hH.1, hH.2.2⟩, hH.2.1.F ht⟩) hH.2.1.2.2 d hM.lk))
theorem r_vret (hM : gMC w p l s m args meth c cc nL own none) (hH : gH w n Rm M s H locs) {P : Prop} (hP : P) (hc : cells ≤ mc ∧ slots ≤ ms) (d : decode cc pc = .ok (.return_, 1)) : W p l e R s m args below meth c H locs cells slots (gQ w n Rm below args s mc ms (.inr none) M P) (F0 m pc ls []) :=
  W.widen hc.1 hc.2 (vx_ret (W.vret hM.fx.1 hM.fx.2.1 hM.rt (fun t ht _ => ⟨hP, _, rfl, rfl, ⟨by rw [ht]; exact hH.1, hH.2.2⟩, hH.2.1.F ht⟩) hH.2.1.2.2 d hM.lk))
theorem r_aretV {C : String} (hM : gMC w p l s m args meth c cc nL own (some (.object C))) (hH : gH w n Rm M s H locs) {v : Value} (hv : v = .null ∨ ∃ a, v = .ref a) {P : Prop} (hP : P) (hc : cells ≤ mc ∧ slots ≤ ms) (d : decode cc pc = .ok (.areturn, 1)) : W p l e R s m args below meth c H locs cells slots (gQ w n Rm below args s mc ms (.inr (some v)) M P) (F0 m pc ls [v]) :=
  W.widen hc.1 hc.2 (vx_ret (W.aret hM.fx.1 hM.fx.2.1 hM.rt (Or.inl ⟨_, rfl⟩) hv (fun t ht _ => ⟨hP, _, rfl, rfl, ⟨by rw [ht]; exact hH.1, hH.2.2⟩, hH.2.1.F ht⟩) hH.2.1.2.2 d hM.lk))
theorem gvR_sh (a : Nat) : gvR w a = .null ∨ ∃ q, gvR w a = .ref q := by
  unfold gvR
  by_cases h : a = 0
  · rw [if_pos h]; exact Or.inl rfl
  · rw [if_neg h]; exact Or.inr ⟨_, rfl⟩
/-- what comes back from a call, and goes on -/
theorem r_go {mc' ms' : Nat} {a : Array Value} {oc : gOc} {v : Option Value} {M' : gMem} {P : Prop} {st : List Value} (hH : gH w n Rm M s H locs) (ho : oc = .inr v)
    (hr : vx_Run p l e R s m args below meth c H locs cells slots mc' ms' (F0 m pc ls st) rest (gRQ w n Rm oc M' P a) (gXQ w n Rm oc M') (gA w))
    (kk : P → ∀ H1 locs1, gH w n Rm M' s H1 locs1 → W p l e R s m args below meth c H1 locs1 (cells + mc') (slots + ms') Q (F0 m (pc + 3) ls (v.toList ++ rest))) : W p l e R s m args below meth c H locs cells slots Q (F0 m pc ls st) := by
  subst ho
  intro T hT X
  rcases hr T hT X with ⟨v', st₀, t, T', L, h0, X', hL, e1, e2, ⟨hp, v2, hv, hret, hP, hF⟩, st⟩ | ⟨q, st₀, t, T', L, E, ce, h0, X', hL, e1, e2, ⟨hcon, -⟩, -⟩
  · cases hv
    cases hret
    obtain ⟨k1, k2, k3⟩ := vx_keep h0 e1 hH.2.1 (fun _ _ z => z) (fun _ z => z) hL hF
    obtain ⟨t2, a1, b1⟩ := kk hp T'.heap (locs ++ L) ⟨by rw [e1]; exact hP.1, k3, hP.2⟩ T' rfl X'
    exact ⟨t2, st t2 a1, b1⟩
  · cases hcon
/-- what is thrown by a call, and leaves this method too -/
theorem r_goX {mc' ms' : Nat} {a : Array Value} {oc : gOc} {E : String} {M' : gMem} {P P2 : Prop} {st : List Value} (hM : gMC w p l s m args meth c cc nL own ret) (hH : gH w n Rm M s H locs) (ho : oc = .inl E)
    (hr : vx_Run p l e R s m args below meth c H locs cells slots mc' ms' (F0 m pc ls st) rest (gRQ w n Rm oc M' P a) (gXQ w n Rm oc M') (gA w)) (hc : cells + mc' ≤ mc ∧ slots + ms' ≤ ms) : W p l e R s m args below meth c H locs cells slots (gQ w n Rm below args s mc ms (.inl E) M' P2) (F0 m pc ls st) := by
  subst ho
  intro T hT X
  rcases hr T hT X with ⟨v', st₀, t, T', L, h0, X', hL, e1, e2, ⟨-, v2, hv, -⟩, -⟩ | ⟨q, st₀, t, T', L, E', ce, h0, X', hL, e1, e2, ⟨hcon, hP, hF⟩, hce, hcv, hcl, st⟩
  · cases hv
  · cases hcon
    obtain ⟨k1, k2, k3⟩ := vx_keep h0 e1 hH.2.1 (fun _ _ z => z) (fun _ z => z) hL hF
    obtain ⟨t2, a1, b1⟩ := vx_out (cells := cells + mc') (slots := slots + ms') (H := T'.heap) (ls := ls) (rest := rest) (pc := pc) (locs := locs ++ L) (free := gA w) (Qc := gRQ w n Rm (.inl E) M' P2) (XC := gXQ w n Rm (.inl E) M') (fun x hx => (hM.tb x hx).elim) hM.lk (by rw [e1]; exact hce) hcv hcl
      (fun t' ht' _ => ⟨rfl, ⟨by rw [ht', e1]; exact hP.1, hP.2⟩, k3.F ht'⟩) k3.2.2 hc.1 hc.2 T' rfl X'
    exact ⟨t2, st.trans a1, b1⟩
/-- a call's words: virtual, static -/
def gCV (own : String) (idx : Nat) (y : MethodName) (bytes : ByteArray) (maxL : Nat) (ry : Option FieldType) (np : Nat) : Prop := Cond.methodLink own idx y ∈ gG ∧ Cond.instanceMethod y ∈ gG ∧ Cond.selects y.cls y y ∈ gG ∧ Cond.initialized y.cls ∈ gG ∧ Cond.code y bytes maxL ry ∈ gG ∧ (y.cls ≠ "java/lang/invoke/MethodHandle" ∧ y.cls ≠ "java/lang/invoke/VarHandle" ∧ (parseMethodDescriptor y.desc).map (fun d => d.parameters.length) = some np)
def gCS (own : String) (idx : Nat) (y : MethodName) (bytes : ByteArray) (maxL : Nat) (ry : Option FieldType) (np : Nat) : Prop := Cond.methodLink own idx y ∈ gG ∧ Cond.static y ∈ gG ∧ Cond.initialized y.cls ∈ gG ∧ Cond.code y bytes maxL ry ∈ gG ∧ (y.cls ≠ "java/lang/invoke/MethodHandle" ∧ y.cls ≠ "java/lang/invoke/VarHandle" ∧ (parseMethodDescriptor y.desc).map (fun d => d.parameters.length) = some np)
theorem gG_ws {y : MethodName} {bytes : ByteArray} {maxL : Nat} {ry : Option FieldType} (h : Cond.code y bytes maxL ry ∈ gG) : GoodIn gG (.code y bytes maxL ry :: gG) := fun x hx => by
  rcases List.mem_cons.mp hx with rfl | hx
  · exact ⟨h, gG_good _ h⟩
  · exact ⟨hx, gG_good _ hx⟩
theorem gblind {av : List Value} : FrameBlind (va_Pc av (gWD w n Rm M)) := fun _ _ _ _ h => ⟨h.1, gWD.blind h.2⟩
theorem r_runV {y : MethodName} {bytes : ByteArray} {maxL np idx fr lo mc' ms' b t : Nat} {ry : Option FieldType} {As : List Value} {oc : gOc} {M' : gMem} {P : Prop} {st : List Value} {C : String} {T : u_T} {N : Nat}
    (hM : gMC w p l s m args meth c cc nL own ret) (hH : gH w n Rm M s H locs) (cv : gCV own idx y bytes maxL ry np) (hy : gMT w n Rm l y bytes maxL ry fr lo mc' ms' (.ref (w.1 + b) :: As) M oc M' P) (hb : gIn n b t) (h16 : t < 16) (hcl : vwCl[t - 1]? = some (C, T, N)) (hC : y.cls = C)
    (hn : As.length = np) (hsz : ls.size = nL) (hst : st = As.reverse ++ .ref (w.1 + b) :: rest) (hW : (rest.map fun v => v.category).sum ≤ 8) (hR : fr + 1 ≤ R.frames ∧ 8 + (maxL + 11) + lo ≤ R.locals) (hf : cells + mc' ≤ R.cells ∧ slots + ms' ≤ R.slots) (d : decode cc pc = .ok (.invokevirtual idx, 3)) :
    vx_Run p l e R s m args below meth c H locs cells slots mc' ms' (F0 m pc ls st) rest (gRQ w n Rm oc M' P (Value.ref (w.1 + b) :: As).toArray) (gXQ w n Rm oc M') (gA w) := by
  subst hC
  have he := gws_at (w := w) (Rm := Rm) (M := M) hb.1 hb.2.1
  rw [gen_obj hb.2.2 h16] at he
  have hg : GoodIn gG (wsV own idx y.cls y (.code y bytes maxL ry :: gG)) := by
    intro x hx
    simp only [wsV, List.cons_append, List.nil_append, List.mem_cons] at hx
    rcases hx with rfl | rfl | rfl | rfl | rfl | hx
    · exact ⟨cv.1, gG_good _ cv.1⟩
    · exact ⟨cv.2.1, gG_good _ cv.2.1⟩
    · exact ⟨cv.2.2.1, gG_good _ cv.2.2.1⟩
    · exact ⟨cv.2.2.2.1, gG_good _ cv.2.2.2.1⟩
    · exact ⟨cv.2.2.2.2.1, gG_good _ cv.2.2.2.2.1⟩
    · exact ⟨hx, gG_good _ hx⟩
  refine vx_runV (As := As) (rest := rest) hM.fx hy (cwV np hM.fx.2.2.2.2 hg rfl rfl rfl ⟨rfl, cv.2.2.2.2.2⟩ hR) ⟨gblind, va_recv hM.kf.1 hH.1 hcl he, fun U hU hW' => ⟨rfl, gWD.at hM.kf hM.ff hH hU hW'⟩⟩ rfl hn hsz hst (lv_room hW) d hf
theorem r_runS {y : MethodName} {bytes : ByteArray} {maxL np idx fr lo mc' ms' : Nat} {ry : Option FieldType} {As : List Value} {oc : gOc} {M' : gMem} {P : Prop} {st : List Value}
    (hM : gMC w p l s m args meth c cc nL own ret) (hH : gH w n Rm M s H locs) (cv : gCS own idx y bytes maxL ry np) (hy : gMT w n Rm l y bytes maxL ry fr lo mc' ms' As M oc M' P)
    (hn : As.length = np) (hsz : ls.size = nL) (hst : st = As.reverse ++ rest) (hW : (rest.map fun v => v.category).sum ≤ 8) (hR : fr + 1 ≤ R.frames ∧ 8 + (maxL + 11) + lo ≤ R.locals) (hf : cells + mc' ≤ R.cells ∧ slots + ms' ≤ R.slots) (d : decode cc pc = .ok (.invokestatic idx, 3)) :
    vx_Run p l e R s m args below meth c H locs cells slots mc' ms' (F0 m pc ls st) rest (gRQ w n Rm oc M' P As.toArray) (gXQ w n Rm oc M') (gA w) := by
  have ok := hM.fx.2.2.2.2
  refine vx_runS (As := As) (rest := rest) hM.fx hy ⟨callB_of np ok (gG_ws cv.2.2.2.1) rfl rfl rfl (ok _ cv.2.2.1) (ok _ cv.1) cv.2.2.2.2 hR, ok _ cv.2.1⟩ ⟨gblind, fun U hU hW' => ⟨rfl, gWD.at hM.kf hM.ff hH hU hW'⟩⟩ rfl hn hsz hst (lv_room hW) d hf
/-- 'throw new E(text)' out of a method without a table -/
def gTH (own : String) (ik ic : Nat) (cls : String) : Prop := Bundle.fit cls = true ∧ Cond.classLink own ik cls ∈ gG ∧ Cond.initialized cls ∈ gG ∧ (∀ x ∈ vx_atS own ic cls ["java/lang/RuntimeException", "java/lang/Exception"], x ∈ gG ∨ x ∈ gNG)
theorem r_throw {P : Prop} {ik is ic i : Nat} {cls text : String} (hM : gMC w p l s m args meth c cc nL own ret) (hH : gH w n Rm M s H locs) (ht : gTH own ik ic cls) (hi : gSL[i]? = some (own, is, text)) (hsz : ls.size = nL)
    (d0 : decode cc pc = .ok (.new ik, 3)) (d3 : decode cc (pc + 3) = .ok (.dup, 1)) (d4 : decode cc (pc + 4) = .ok (.ldc is, 2)) (d6 : decode cc (pc + 6) = .ok (.invokespecial ic, 3)) (d9 : decode cc (pc + 9) = .ok (.athrow, 1))
    (hR : 5 < R.frames ∧ (rest.map fun v => v.category).sum + 82 ≤ R.locals ∧ cells + 1 ≤ R.cells ∧ slots + 6 ≤ R.slots) (hc : cells + 1 ≤ mc ∧ slots + 6 ≤ ms) : W p l e R s m args below meth c H locs cells slots (gQ w n Rm below args s mc ms (.inl cls) M P) (F0 m pc ls rest) := by
  have ok := hM.fx.2.2.2.2
  have okN : ∀ x ∈ gNG, x.before args s = true := fun x hx => va_Nw.use (gNw_on (List.mem_filter.mp hx).2) (hM.kf.2.1 x hx)
  have okA : ∀ x ∈ gG, vx_ot x = true := fun x hx => by unfold vx_ot; rw [(List.mem_filter.mp hx).2, Bool.or_true]
  have okB : ∀ x ∈ gNG, vx_ot x = true := fun x hx => by unfold vx_ot; rw [gNw_on (List.mem_filter.mp hx).2, Bool.true_or]
  refine vx_throwS (names := ["java/lang/RuntimeException", "java/lang/Exception"]) (A := gA w) hM.fx.1 hM.fx.2.1 hM.ns hM.fx.2.2.2.1 ht.1 (by decide +kernel) (ok _ ht.2.1) (ok _ ht.2.2.1) (hM.kf.2.2 i (own, is, text) hi) (fun x hx => (ht.2.2.2 x hx).elim (ok x) (okN x)) ?_ hM.ff.1 hM.ff.2.1 hH.2.1 (hsz.trans hM.fx.2.2.1.symm) d0 d3 d4 d6 d9
    (fun x hx => (hM.tb x hx).elim) hR.1 hR.2.1 hR.2.2.1 hR.2.2.2 hM.lk ?_ hH.2.1.2.2 hc.1 hc.2
  · intro x hx
    rcases List.mem_cons.mp hx with rfl | hx
    · exact okA _ ht.2.1
    · rcases List.mem_cons.mp hx with rfl | hx
      · exact okA _ ht.2.2.1
      · exact (ht.2.2.2 x hx).elim (okA x) (okB x)
  · intro t _ hz hq
    refine ⟨rfl, ⟨hH.1.kept fun k q hk => hq _ ?_, hH.2.2⟩, Nat.le_trans hH.2.1.1 hz, fun q h1 h2 => ?_⟩
    · exact vx_lt hH.1 hk
    · rw [hq q (Nat.lt_of_lt_of_le h1 hH.2.1.1)]
      exact hH.2.1.2.1 q h1 h2
theorem r_throwW {P : Prop} {ik is ic i : Nat} {cls text : String} (hM : gMC w p l s m args meth c cc nL own ret) (hH : gH w n Rm M s H locs) (ht : gTH own ik ic cls) (hi : gSL[i]? = some (own, is, text)) (hsz : ls.size = nL)
    (d0 : decode cc pc = .ok (.new ik, 3)) (d3 : decode cc (pc + 3) = .ok (.dup, 1)) (d4 : decode cc (pc + 4) = .ok (.ldc_w is, 3)) (d6 : decode cc (pc + 7) = .ok (.invokespecial ic, 3)) (d9 : decode cc (pc + 10) = .ok (.athrow, 1))
    (hR : 5 < R.frames ∧ (rest.map fun v => v.category).sum + 82 ≤ R.locals ∧ cells + 1 ≤ R.cells ∧ slots + 6 ≤ R.slots) (hc : cells + 1 ≤ mc ∧ slots + 6 ≤ ms) : W p l e R s m args below meth c H locs cells slots (gQ w n Rm below args s mc ms (.inl cls) M P) (F0 m pc ls rest) := by
  have ok := hM.fx.2.2.2.2
  have okN : ∀ x ∈ gNG, x.before args s = true := fun x hx => va_Nw.use (gNw_on (List.mem_filter.mp hx).2) (hM.kf.2.1 x hx)
  have okA : ∀ x ∈ gG, vx_ot x = true := fun x hx => by unfold vx_ot; rw [(List.mem_filter.mp hx).2, Bool.or_true]
  have okB : ∀ x ∈ gNG, vx_ot x = true := fun x hx => by unfold vx_ot; rw [gNw_on (List.mem_filter.mp hx).2, Bool.true_or]
  refine vx_throwSW (names := ["java/lang/RuntimeException", "java/lang/Exception"]) (A := gA w) hM.fx.1 hM.fx.2.1 hM.ns hM.fx.2.2.2.1 ht.1 (by decide +kernel) (ok _ ht.2.1) (ok _ ht.2.2.1) (hM.kf.2.2 i (own, is, text) hi) (fun x hx => (ht.2.2.2 x hx).elim (ok x) (okN x)) ?_ hM.ff.1 hM.ff.2.1 hH.2.1 (hsz.trans hM.fx.2.2.1.symm) d0 d3 d4 d6 d9
    (fun x hx => (hM.tb x hx).elim) hR.1 hR.2.1 hR.2.2.1 hR.2.2.2 hM.lk ?_ hH.2.1.2.2 hc.1 hc.2
  · intro x hx
    rcases List.mem_cons.mp hx with rfl | hx
    · exact okA _ ht.2.1
    · rcases List.mem_cons.mp hx with rfl | hx
      · exact okA _ ht.2.2.1
      · exact (ht.2.2.2 x hx).elim (okA x) (okB x)
  · intro t _ hz hq
    refine ⟨rfl, ⟨hH.1.kept fun k q hk => hq _ ?_, hH.2.2⟩, Nat.le_trans hH.2.1.1 hz, fun q h1 h2 => ?_⟩
    · exact vx_lt hH.1 hk
    · rw [hq q (Nat.lt_of_lt_of_le h1 hH.2.1.1)]
      exact hH.2.1.2.1 q h1 h2
end Ends2
section Ends3
variable {p : Program} {l : Launch} {e : Env} {R : Room} {s : State} {m : MethodId} {args : Array Value} {below : List Frame} {meth : Method} {c : Code} {H : Heap} {locs : List Loc} {cells slots : Nat} {Q : State → Prop}
variable {cc : ByteArray} {nL : Nat} {own : String} {ret : Option FieldType} {w : gW} {n : Nat} {Rm : Nat → Nat → Nat} {M : gMem} {pc : Nat} {ls : Array Slot} {rest : List Value} {mc ms : Nat}
theorem r_go0 {mc' ms' : Nat} {a : Array Value} {oc : gOc} {M' : gMem} {P : Prop} {st : List Value} (hH : gH w n Rm M s H locs) (ho : oc = .inr none)
    (hr : vx_Run p l e R s m args below meth c H locs cells slots mc' ms' (F0 m pc ls st) rest (gRQ w n Rm oc M' P a) (gXQ w n Rm oc M') (gA w))
    (kk : P → ∀ H1 locs1, gH w n Rm M' s H1 locs1 → W p l e R s m args below meth c H1 locs1 (cells + mc') (slots + ms') Q (F0 m (pc + 3) ls rest)) : W p l e R s m args below meth c H locs cells slots Q (F0 m pc ls st) := r_go hH ho hr kk
theorem r_go1 {mc' ms' : Nat} {a : Array Value} {oc : gOc} {v : Value} {M' : gMem} {P : Prop} {st : List Value} (hH : gH w n Rm M s H locs) (ho : oc = .inr (some v))
    (hr : vx_Run p l e R s m args below meth c H locs cells slots mc' ms' (F0 m pc ls st) rest (gRQ w n Rm oc M' P a) (gXQ w n Rm oc M') (gA w))
    (kk : P → ∀ H1 locs1, gH w n Rm M' s H1 locs1 → W p l e R s m args below meth c H1 locs1 (cells + mc') (slots + ms') Q (F0 m (pc + 3) ls (v :: rest))) : W p l e R s m args below meth c H locs cells slots Q (F0 m pc ls st) := r_go hH ho hr kk
theorem gpos {α : Type} {c : Prop} [Decidable c] {A B : Option α} {r : α} (h : c) (hf : (if c then A else B) = some r) : A = some r := by rwa [if_pos h] at hf
theorem gneg' {α : Type} {c : Prop} [Decidable c] {A B : Option α} {r : α} (h : ¬ c) (hf : (if c then A else B) = some r) : B = some r := by rwa [if_neg h] at hf
theorem gcR {k : Int} (h : -2147483648 ≤ k ∧ k < 2147483648) : gRI k := h
end Ends3
