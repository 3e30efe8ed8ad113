/-! Objects in the making: a world that grows -/
def gAO (U : State) : Prop := va_AO RX4 U ∧ va_AO RX3 U ∧ va_AO RX0 U
theorem gAO.moved {u U : State} (hvm : u.vm.Alike U.vm) (h : gAO u) : gAO U := ⟨h.1.moved hvm, h.2.1.moved hvm, h.2.2.moved hvm⟩
def gru (Rm : Nat → Nat → Nat) (a k b : Nat) : Nat → Nat → Nat := fun x j => if x = a ∧ j = k then b else Rm x j
def gBy (n : Nat) (Rm : Nat → Nat → Nat) (M : gMem) : Prop := ∀ a, n < a → ∀ k, Rm a k = 0 ∧ M a k = 0
def gIH (w : gW) (n : Nat) (Rm : Nat → Nat → Nat) (M : gMem) (s : State) (H : Heap) (locs : List Loc) : Prop := gH w n Rm M s H locs ∧ H.size = w.1 + n + 1 ∧ gBy n Rm M
def gIW (w : gW) (n : Nat) (Rm : Nat → Nat → Nat) (M : gMem) (U : State) : Prop := gWD w n Rm M U ∧ gAO U ∧ U.heap.size = w.1 + n + 1
def gIQ (w : gW) (n : Nat) (Rm : Nat → Nat → Nat) (M : gMem) : Array Value → State → Outcome → State → Prop := fun _ st o t => o = .returned none ∧ (va_P (gDD w) vwCl (gws w n Rm M) t.heap ∧ gRG M) ∧ va_F (gA w) st t
/-- a constructor's contract: it stands on the object a = n, made last -/
def gIT (w : gW) (l : Launch) (y : MethodName) (cc : ByteArray) (nL fr lo mc ms n : Nat) (Rm : Nat → Nat → Nat) (M : gMem) (Rm' : Nat → Nat → Nat) (M' : gMem) : Prop :=
  Met l y (.code y cc nL none :: gG) { frames := fr, cells := mc, slots := ms, locals := lo } (va_Pc [.ref (w.1 + n)] (gIW w n Rm M)) (gIQ w (n + mc) Rm' M') mc ms (gA w)
def gIC (w : gW) (p : Program) (l : Launch) (s : State) (m : MethodId) (args : Array Value) (meth : Method) (c : Code) (cc : ByteArray) (nL : Nat) (own : String) (n0 : Nat) : Prop :=
  gMC w p l s m args meth c cc nL own none ∧ gAO s ∧ meth.name = "<init>" ∧ s.heap.size = w.1 + n0 + 1
theorem gIW.blind {w : gW} {n : Nat} {Rm : Nat → Nat → Nat} {M : gMem} {U : State} {g : JFrame} {mk : MethodId} {a : Array Value} (h : gIW w n Rm M U) : gIW w n Rm M (U.calling g mk a) :=
  ⟨gWD.blind h.1, gAO.moved (u := U) (U := U.calling g mk a) (Vm.Alike.refl U.vm) h.2.1, h.2.2⟩
theorem gIW.at {w : gW} {n : Nat} {Rm : Nat → Nat → Nat} {M : gMem} {s U : State} {H : Heap} {locs : List Loc} (hK : gKF w s) (hF : gFix w s s.heap) (hO : gAO s) (hH : gIH w n Rm M s H locs) (hU : U.heap = H) (hW : s.WarmedH U.vm) : gIW w n Rm M U :=
  ⟨gWD.at hK hF hH.1 hU hW, hO.moved hW.alike, by rw [hU]; exact hH.2.1⟩
theorem gIT.of {w : gW} {l : Launch} {y : MethodName} {cc : ByteArray} {nL fr lo mc ms n : Nat} {Rm Rm' : Nat → Nat → Nat} {M M' : gMem} (hl9 : l.stackTraces = false) (hy : plainName y.cls = true) (hn : 1 ≤ nL) (hi : y.name = "<init>") (hB : gBy n Rm M)
    (body : ∀ (p : Program) (e : Env) (s : State) (m : MethodId) (below : List Frame) (meth : Method) (c : Code), gIC w p l s m [Value.ref (w.1 + n)].toArray meth c cc nL y.cls n → gIH w n Rm M s s.heap [] → ∀ ls : Array Slot, lv_has ls nL [(0, .ref (w.1 + n))] →
      W p l e { frames := fr, cells := mc, slots := ms, locals := lo } s m [Value.ref (w.1 + n)].toArray below meth c s.heap [] 0 0 (MQ below (gIQ w (n + mc) Rm' M') [Value.ref (w.1 + n)].toArray s mc ms (gA w)) (F0 m 0 ls [])) :
    gIT w l y cc nL fr lo mc ms n Rm M Rm' M' := by
  refine Met.ofW (cc := cc) (maxL := nL) (ret := none) hy rfl ?_
  intro p e s m args below meth c s₁ B hml hv
  obtain ⟨rfl, ⟨hK, hF, hP, hR⟩, hO, hz⟩ := hv
  have hts := atoms_spec (ws := .code y cc nL none :: gG) B.pre
  have hown : s.vm.findClass y.cls = some m.cls := findClass_of_methodNamed B.named
  have htb : ∀ x ∈ c.exceptionTable.toList, False := by
    obtain ⟨meth9, c9, h1, h2, -, -, -, -, h7, -⟩ := Cond.code_spec B.named (hts _ List.mem_cons_self)
    cases Option.some.inj (h1.symm.trans B.method)
    cases Option.some.inj (h2.symm.trans (Stand.of_body B).code)
    intro x hx
    rw [Array.isEmpty_iff.mp h7] at hx
    cases hx
  rw [lg_entry_eq]
  exact body p e s m below meth c ⟨⟨⟨B.exec, B.bytes, hml, hown, fun x hx => hts x (List.mem_cons_of_mem _ hx)⟩, hK, hF, B.returns, B.notSynchronized, htb, hl9⟩, hO, (name_of_methodNamed B.named B.method).1.trans hi, hz⟩ ⟨⟨hP, va_S.rf, hR⟩, hz, hB⟩ _ (lv_entry [Value.ref (w.1 + n)] (by exact hn))
theorem gws_succ {w : gW} {n : Nat} {Rm : Nat → Nat → Nat} {M : gMem} : gws w (n + 1) Rm M = gws w n Rm M ++ [(w.1 + n + 1, gen w Rm M (n + 1))] := by
  unfold gws
  rw [List.range_succ, List.map_append]
  rfl
def gdv (q : Nat) : Value := if q = 2 then .null else if q = 1 then .long 0 else .int 0
theorem gfv_0 {w : gW} {n : Nat} {Rm : Nat → Nat → Nat} {M : gMem} (h : gBy n Rm M) (k q : Nat) : gfv w Rm M (n + 1) k q = gdv q := by
  unfold gfv gdv
  rw [(h (n + 1) (by omega) k).1, (h (n + 1) (by omega) k).2]
  rfl
/-- the words of 'new' -/
def gNK (own : String) (idx t : Nat) : Prop := ∃ (C : String) (T : u_T) (N : Nat) (ty : Nat → FieldType), vwCl[t - 1]? = some (C, T, N) ∧ 1 ≤ t ∧ t < 16 ∧ (gfk t).length = N ∧ (∀ k, k < N → parseFieldDescriptor (T k).2.2.1 = some (ty k)) ∧ (∀ j, j < N → defaultValue (ty j) = gdv ((gfk t).getD j 0)) ∧
  Cond.classLink own idx C ∈ gG ∧ Cond.instantiable C N ∈ gG ∧ Cond.initialized C ∈ gG ∧ (∀ x ∈ u_ws C T N, x ∈ gG)
/-- a final reference field, put by its class's constructor -/
def gFR (own : String) (idx t k : Nat) : Prop := ∃ (C : String) (T : u_T) (N : Nat) (ty0 : Nat → FieldType) (ty : FieldType), vwCl[t - 1]? = some (C, T, N) ∧ 1 ≤ t ∧ t < 16 ∧ k < N ∧ Cond.fieldLink own idx (T k).1 (T k).2.1 (T k).2.2.1 ∈ gG ∧ (∀ x ∈ u_ws C T N, x ∈ gG) ∧ (gfk t)[k]? = some 2 ∧
  (∀ k, k < N → parseFieldDescriptor (T k).2.2.1 = some (ty0 k)) ∧ (∀ a, a < N → ∀ b, b < N → a ≠ b → (T a).2.1 ≠ (T b).2.1) ∧ (T k).2.2.2 = true ∧ (T k).1 = own ∧ parseFieldDescriptor (T k).2.2.1 = some ty ∧ (∀ x, narrow ty (.ref x) = .ref x) ∧ (∀ x, fits ty (.ref x) = true)
theorem gru_ne {Rm : Nat → Nat → Nat} {a k v b : Nat} (h : b ≠ a) : gru Rm a k v b = Rm b := by
  funext j
  unfold gru
  rw [if_neg (fun z => h z.1)]
theorem gen_congR {w : gW} {Rm Rm' : Nat → Nat → Nat} {M : gMem} {b : Nat} (h : Rm' b = Rm b) : gen w Rm' M b = gen w Rm M b := by
  unfold gen gfs gar gfv
  simp only [h]
theorem gws_setR {w : gW} {n : Nat} {Rm Rm' : Nat → Nat → Nat} {M : gMem} {a : Nat} {e : va_E} (h0 : 1 ≤ a) (he : e = gen w Rm' M a) (hb : ∀ b, b ≠ a → gen w Rm' M b = gen w Rm M b) : (gws w n Rm M).set (a - 1) (w.1 + a, e) = gws w n Rm' M := by
  apply List.ext_getElem?
  intro i
  unfold gws
  rw [List.getElem?_set]
  by_cases hi : a - 1 = i
  · subst hi
    rw [if_pos rfl]
    have h1 : a - 1 + 1 = a := by omega
    by_cases hn : a - 1 < n
    · rw [if_pos (by simpa using hn), List.getElem?_map, List.getElem?_range hn]
      simp [h1, he]
    · rw [if_neg (by simpa using hn), List.getElem?_eq_none (by simp; omega)]
  · rw [if_neg hi, List.getElem?_map, List.getElem?_map]
    by_cases hn : i < n
    · rw [List.getElem?_range hn]
      simp only [Option.map_some]
      rw [hb (i + 1) (by omega)]
    · rw [List.getElem?_eq_none (by simp; omega)]
      rfl
theorem gfs_setR {w : gW} {Rm : Nat → Nat → Nat} {M : gMem} {a t k b : Nat} (h : (gfk t)[k]? = some 2) (hb : b ≠ 0) : (gfs w Rm M t a).set k (.ref (w.1 + b)) = gfs w (gru Rm a k b) M t a := by
  apply List.ext_getElem?
  intro i
  unfold gfs
  rw [List.getElem?_set, List.getElem?_mapIdx, List.getElem?_mapIdx]
  by_cases hi : k = i
  · subst hi
    have hlt := (List.getElem?_eq_some_iff.mp h).1
    rw [if_pos rfl, if_pos (by simpa using hlt), h]
    simp [gfv, gvR, gru, hb]
  · rw [if_neg hi]
    cases hq : (gfk t)[i]? with
    | none => rfl
    | some q' =>
      simp only [Option.map_some]
      congr 1
      unfold gfv gru
      rw [if_neg (show ¬ (a = a ∧ i = k) from fun z => hi z.2.symm)]
theorem gBy.gru {n : Nat} {Rm : Nat → Nat → Nat} {M : gMem} {a k b : Nat} (h : gBy n Rm M) (ha : a ≤ n) : gBy n (gru Rm a k b) M := fun x hx j => by
  rw [gru_ne (by omega)]
  exact h x hx j
theorem gBy.succ {n n' : Nat} {Rm : Nat → Nat → Nat} {M : gMem} (h : gBy n Rm M) (hn : n ≤ n') : gBy n' Rm M := fun x hx j => h x (by omega) j
section Make
variable {p : Program} {l : Launch} {e : Env} {R : Room} {s : State} {m : MethodId} {args : Array Value} {below : List Frame} {meth : Method} {c : Code} {H : Heap} {locs : List Loc} {cells slots : Nat} {Q : State → Prop}
variable {cc : ByteArray} {nL : Nat} {own : String} {w : gW} {n n0 : Nat} {Rm : Nat → Nat → Nat} {M : gMem} {pc : Nat} {ls : Array Slot} {rest : List Value} {mc ms : Nat}
theorem gIC.b (hC : gIC w p l s m args meth c cc nL own n0) : gMC w p l s m args meth c cc nL own none := hC.1
theorem i_new (hC : gIC w p l s m args meth c cc nL own n0) (hH : gIH w n Rm M s H locs) {idx t : Nat} (hk : gNK own idx t) (ht : gsh (n + 1) = t) (hf : cells + 1 ≤ R.cells ∧ slots + (gfk t).length ≤ R.slots) (d : decode cc pc = .ok (.new idx, 3))
    (kk : ∀ H1, gIH w (n + 1) Rm M s H1 locs → W p l e R s m args below meth c H1 locs (cells + 1) (slots + (gfk t).length) Q (F0 m (pc + 3) ls (.ref (w.1 + (n + 1)) :: rest))) : W p l e R s m args below meth c H locs cells slots Q (F0 m pc ls rest) := by
  obtain ⟨C, T, N, ty, f1, f2, f3, f4, f5, f6, f7, f8, f9, f10⟩ := hk
  have ok := hC.b.fx.2.2.2.2
  have hKn := hC.b.kf.1.1 (t - 1) _ f1
  rw [f4] at hf kk
  obtain ⟨⟨hP, hS, hR⟩, hz, hB⟩ := hH
  refine W.newcK hC.b.fx.1 hC.b.fx.2.1 hC.b.fx.2.2.2.1 (ok _ f7) (ok _ f8) (ok _ f9) rfl d hf.1 hf.2 hKn.2.1 (h := w.1 + n + 1) hz fun H1 kC hkC e1 z1 o1 => ?_
  have hk : ∀ (k : Nat) (x : Nat × va_E), (gws w n Rm M)[k]? = some x → H1[x.1]? = H[x.1]? := fun k x hx => o1 x.1 (by rw [← hz]; exact (hP k x hx).lt)
  refine kk H1 ⟨⟨?_, ⟨Nat.le_trans hS.1 (by omega), fun x h1 h2 => (o1 x (by rw [← hz]; exact Nat.lt_of_lt_of_le h1 hS.1)).trans (hS.2.1 x h1 h2), hS.2.2⟩, hR⟩, by omega, hB.succ (by omega)⟩
  rw [gws_succ]
  refine (hP.kept hk).app (fun k x hx => ?_)
  have hz : k < 1 := (List.getElem?_eq_some_iff.mp hx).1
  rw [show k = 0 by omega] at hx
  cases hx
  rw [gen_obj ht f3]
  refine ⟨_, f1, (u_born ty ok f10 hKn hkC e1 f5).to (fun j hj => ?_)⟩
  rw [f6 j hj]
  unfold vp_V
  rw [← f4] at hj
  have h9 : (gfs w Rm M t (n + 1))[j]? = some (gdv ((gfk t).getD j 0)) := by
    rw [gfs_at (q := (gfk t).getD j 0) (by rw [List.getD_eq_getElem?_getD, List.getElem?_eq_getElem hj]; rfl), gfv_0 hB]
  have h10 : ∀ (xs : List Value) (v : Value), xs[j]? = some v → v = xs.getD j .null := fun xs v h => by
    rw [List.getD_eq_getElem?_getD, h]
    rfl
  exact h10 _ _ h9
theorem i_newa (hC : gIC w p l s m args meth c cc nL own n0) (hH : gIH w n Rm M s H locs) {atype : ArrayType} {ty : FieldType} {kd L : Nat} (harr : Cond.arrayClass ty ∈ gG) (hty : newarray.typeOf atype = ty) (hkd : (gty w)[kd]? = some (w.2.2.2.1 kd, ty)) (hdv : defaultValue ty = if kd = 3 then .long 0 else .int 0) (h4 : kd < 4) (ht : gsh (n + 1) = 16 * (L + 1) + kd) (hL : (L : Int) < 2147483648) (hbytes : L * componentBytes ty ≤ 536870912) (hf : cells + 1 ≤ R.cells ∧ slots + L ≤ R.slots) (d : decode cc pc = .ok (.newarray atype, 2))
    (kk : ∀ H1, gIH w (n + 1) Rm M s H1 locs → W p l e R s m args below meth c H1 locs (cells + 1) (slots + L) Q (F0 m (pc + 2) ls (.ref (w.1 + (n + 1)) :: rest))) : W p l e R s m args below meth c H locs cells slots Q (F0 m pc ls (.int (gi (L : Int)) :: rest)) := by
  have ok := hC.b.fx.2.2.2.2
  obtain ⟨⟨hP, hS, hR⟩, hz, hB⟩ := hH
  have hra := (hC.b.kf.1.2 kd _ hkd).2
  subst hty
  have hra : s.vm.findClass ("[" ++ (newarray.typeOf atype).toString) = some (w.2.2.2.1 kd) := by cases atype <;> exact hra
  refine va_newaK hC.b.fx.1 hC.b.fx.2.1 (ok _ harr) rfl d rfl (gneg (gcR (by omega)) (by omega)) (N := L) (by rw [gclamp (gcR (by omega))]; omega) hbytes hf.1 hf.2 hz fun H1 cA e1 z1 o1 hAr hNm => ?_
  cases Option.some.inj (hNm.symm.trans hra)
  have hk : ∀ (k : Nat) (x : Nat × va_E), (gws w n Rm M)[k]? = some x → H1[x.1]? = H[x.1]? := fun k x hx => o1 x.1 (by rw [← hz]; exact (hP k x hx).lt)
  refine kk H1 ⟨⟨?_, ⟨Nat.le_trans hS.1 (by omega), fun x h1 h2 => (o1 x (by rw [← hz]; exact Nat.lt_of_lt_of_le h1 hS.1)).trans (hS.2.1 x h1 h2), hS.2.2⟩, hR⟩, by omega, hB.succ (by omega)⟩
  rw [gws_succ]
  refine (hP.kept hk).app (fun k x hx => ?_)
  have hz : k < 1 := (List.getElem?_eq_some_iff.mp hx).1
  rw [show k = 0 by omega] at hx
  cases hx
  rw [gen_arr ht (by omega)]
  rw [show (16 * (L + 1) + kd) % 16 = kd by omega, show (16 * (L + 1) + kd) / 16 - 1 = L by omega]
  show H1[w.1 + n + 1]? = some (vp_cell _ _)
  rw [e1, hdv]
  by_cases h3 : kd = 3
  · subst h3
    rw [if_pos rfl, gar_l, vp_cell_l]
    simp only [(hB (n + 1) (by omega) _).2]
    rfl
  · rw [if_neg h3, gar_i (by omega), vp_cell_i]
    simp only [(hB (n + 1) (by omega) _).2]
    rfl
theorem i_anew (hC : gIC w p l s m args meth c cc nL own n0) (hH : gIH w n Rm M s H locs) {C : String} {idx kd L : Nat} (hcl : Cond.classLink own idx C ∈ gG) (hao : va_AO C s) (hkd : (gty w)[kd]? = some (w.2.2.2.1 kd, .object C)) (h4 : 4 ≤ kd ∧ kd < 16) (ht : gsh (n + 1) = 16 * (L + 1) + kd) (hL : L < 1000) (hf : cells + 1 ≤ R.cells ∧ slots + L ≤ R.slots) (d : decode cc pc = .ok (.anewarray idx, 3))
    (kk : ∀ H1, gIH w (n + 1) Rm M s H1 locs → W p l e R s m args below meth c H1 locs (cells + 1) (slots + L) Q (F0 m (pc + 3) ls (.ref (w.1 + (n + 1)) :: rest))) : W p l e R s m args below meth c H locs cells slots Q (F0 m pc ls (.int (gi (L : Int)) :: rest)) := by
  have ok := hC.b.fx.2.2.2.2
  obtain ⟨⟨hP, hS, hR⟩, hz, hB⟩ := hH
  obtain ⟨kA0, comp0, -, -, -, hra⟩ := (hC.b.kf.1.2 kd _ hkd).2
  have hN : (gi (L : Int)).toNatClampNeg = L := by rw [gclamp (gcR (by omega))]; omega
  refine W.anew hC.b.fx.1 hC.b.fx.2.1 hC.b.fx.2.2.2.1 (ok _ hcl) (va_AO.use hao) rfl d rfl (gneg (gcR (by omega)) (by omega)) (by rw [hN]; omega) hf.1 (by rw [hN]; exact hf.2) fun cA kA comp f1 f2 f3 f4 => ?_
  cases Option.some.inj (f1.symm.trans hra)
  rw [hN]
  generalize hH1 : H.push ({ cls := w.2.2.2.1 kd, slots := Array.replicate L .null, vm := .none } : Cell) = H1
  have z1 : H1.size = H.size + 1 := by rw [← hH1, Array.size_push]
  have e1 : H1[H.size]? = some (arrV (w.2.2.2.1 kd) L (fun _ => .null)) := by rw [← hH1, Array.getElem?_push_size, ← arrV_new]
  have o1 : ∀ q : Nat, q < H.size → H1[q]? = H[q]? := fun q hq => by rw [← hH1, Array.getElem?_push, if_neg (Nat.ne_of_lt hq)]
  have hk : ∀ (k : Nat) (x : Nat × va_E), (gws w n Rm M)[k]? = some x → H1[x.1]? = H[x.1]? := fun k x hx => o1 x.1 ((hP k x hx).lt)
  rw [hz] at e1 ⊢
  refine kk H1 ⟨⟨?_, ⟨Nat.le_trans hS.1 (by omega), fun x h1 h2 => (o1 x (Nat.lt_of_lt_of_le h1 hS.1)).trans (hS.2.1 x h1 h2), hS.2.2⟩, hR⟩, by omega, hB.succ (by omega)⟩
  rw [gws_succ]
  refine (hP.kept hk).app (fun k x hx => ?_)
  have hz : k < 1 := (List.getElem?_eq_some_iff.mp hx).1
  rw [show k = 0 by omega] at hx
  cases hx
  rw [gen_arr ht (by omega)]
  rw [show (16 * (L + 1) + kd) % 16 = kd by omega, show (16 * (L + 1) + kd) / 16 - 1 = L by omega]
  show H1[w.1 + n + 1]? = some (vp_cell _ _)
  have hg : gar w Rm M kd (n + 1) = .inr (.inr (.inr (.inr (fun _ => none)))) := by
    unfold gar
    rw [if_neg (by omega), if_neg (by omega)]
    simp only [(hB (n + 1) (by omega) _).1]
    rfl
  rw [hg, vp_cell_q]
  exact e1
theorem i_size {g : JFrame} (hC : gIC w p l s m args meth c cc nL own n0) (hP : va_P (gDD w) vwCl (gws w n Rm M) H) (hn : n = n0 + cells) (h1 : 1 ≤ n) (k : H.size = w.1 + n + 1 → W p l e R s m args below meth c H locs cells slots Q g) : W p l e R s m args below meth c H locs cells slots Q g := fun T hT X => by
  refine k ?_ T hT X
  have h2 := X.heapSize
  have h3 := (hP _ _ (gws_at (w := w) (Rm := Rm) (M := M) h1 (Nat.le_refl n))).lt
  have h4 := hC.2.2.2
  rw [hT] at h2
  have h5 : w.1 + n < H.size := h3
  omega
theorem i_putR (hC : gIC w p l s m args meth c cc nL own n0) (hH : gIH w n Rm M s H locs) (hn : n = n0 + cells) {a b t k idx : Nat} (f : gFR own idx t k) (ha : gIn n a t) (hb : b ≠ 0) (d : decode cc pc = .ok (.putfield idx, 3))
    (kk : ∀ H1 locs1, gIH w n (gru Rm a k b) M s H1 locs1 → W p l e R s m args below meth c H1 locs1 cells slots Q (F0 m (pc + 3) ls rest)) : W p l e R s m args below meth c H locs cells slots Q (F0 m pc ls (.ref (w.1 + b) :: .ref (w.1 + a) :: rest)) := by
  obtain ⟨C, T, N, ty0, ty, f1, f2, f3, f4, f5, f6, f7, f8, f9, f10, f11, f12, f13, f14⟩ := f
  have ok := hC.b.fx.2.2.2.2
  obtain ⟨⟨hP, hS, hR⟩, hz, hB⟩ := hH
  have he := gws_at (w := w) (Rm := Rm) (M := M) ha.1 ha.2.1
  rw [gen_obj ha.2.2 f3] at he
  have hk := (List.getElem?_eq_some_iff.mp f7).1
  refine va_putF hC.b.fx.1 hC.b.fx.2.1 ok f6 ty0 f8 f9 hC.b.fx.2.2.2.1 hC.b.kf.1 hP (gD w n Rm M) hS (a - 1) he f1 k f4 (ok _ f5) (fun _ z => z) f10 hC.2.2.1 f11 f12 (f13 _) (f14 _) (by unfold gfs; simpa using hk) d (fun H1 locs1 hP1 _ hS1 => ?_)
  rw [gfs_setR f7 hb, ← gen_obj ha.2.2 f3, gws_setR ha.1 rfl (fun x hx => gen_congR (gru_ne hx))] at hP1
  exact i_size hC hP1 hn (by have := ha.1; have := ha.2.1; omega) (fun hz1 => kk H1 locs1 ⟨⟨hP1, hS1, hR⟩, hz1, hB.gru ha.2.1⟩)
theorem i_aast (hC : gIC w p l s m args meth c cc nL own n0) (hH : gIH w n Rm M s H locs) (hn : n = n0 + cells) {a b t t' kd i : Nat} {C : String} {T : u_T} {N : Nat} (hkd : (gty w)[kd]? = some (w.2.2.2.1 kd, .object C)) (hcl : vwCl[t' - 1]? = some (C, T, N)) (h16 : t' < 16) (h4 : 4 ≤ kd ∧ kd < 16) (ha : gIn n a t) (hb : gIn n b t') (ht : t % 16 = kd ∧ 16 ≤ t) (hi : i < t / 16 - 1) (hi1 : (i : Int) < 2147483648) (d : decode cc pc = .ok (.aastore, 1))
    (kk : ∀ H1 locs1, gIH w n (gru Rm a i b) M s H1 locs1 → W p l e R s m args below meth c H1 locs1 cells slots Q (F0 m (pc + 1) ls rest)) : W p l e R s m args below meth c H locs cells slots Q (F0 m pc ls (.ref (w.1 + b) :: .int (gi (i : Int)) :: .ref (w.1 + a) :: rest)) := by
  obtain ⟨⟨hP, hS, hR⟩, hz, hB⟩ := hH
  have he := gws_at (w := w) (Rm := Rm) (M := M) ha.1 ha.2.1
  rw [gen_arr ha.2.2 ht.2, ht.1] at he
  have hg : gar w Rm M kd a = .inr (.inr (.inr (.inr (fun j => grO w (Rm a j))))) := by
    unfold gar
    rw [if_neg (by omega), if_neg (by omega)]
  rw [hg] at he
  have hv := gws_at (w := w) (Rm := Rm) (M := M) hb.1 hb.2.1
  rw [gen_obj hb.2.2 h16] at hv
  refine va_astq hC.b.fx.1 hC.b.fx.2.1 hC.b.kf.1 hP (gD w n Rm M) hS (a - 1) kd (b - 1) (t' - 1) he hkd hv hcl (gin (gcR (by omega)) (by omega)) d (fun H1 locs1 hP1 _ hS1 => ?_)
  have hu : va_up (fun j => grO w (Rm a j)) (gi (i : Int)).toNatClampNeg (some (w.1 + b)) = fun j => grO w (gru Rm a i b a j) := by
    funext j
    rw [gclamp (gcR (by omega))]
    unfold va_up gru
    by_cases hj : j = i
    · rw [if_pos (by omega), if_pos ⟨rfl, hj⟩]
      unfold grO
      rw [if_neg (by have := hb.1; omega)]
    · rw [if_neg (by omega), if_neg (fun z => hj z.2)]
  have hg2 : gar w (gru Rm a i b) M kd a = .inr (.inr (.inr (.inr (fun j => grO w (gru Rm a i b a j))))) := by
    unfold gar
    rw [if_neg (by omega), if_neg (by omega)]
  have he2 : gen w (gru Rm a i b) M a = .inl (w.2.2.2.1 kd, t / 16 - 1, .inr (.inr (.inr (.inr (fun j => grO w (gru Rm a i b a j)))))) := by
    rw [gen_arr ha.2.2 ht.2, ht.1, hg2]
  rw [hu, ← he2, gws_setR ha.1 rfl (fun x hx => gen_congR (gru_ne hx))] at hP1
  exact i_size hC hP1 hn (by have := ha.1; have := ha.2.1; omega) (fun hz1 => kk H1 locs1 ⟨⟨hP1, hS1, hR⟩, hz1, hB.gru ha.2.1⟩)
theorem i_call (hC : gIC w p l s m args meth c cc nL own n0) (hH : gIH w n Rm M s H locs) {y : MethodName} {bytes : ByteArray} {maxL idx fr lo mc' ms' : Nat} {Rm' : Nat → Nat → Nat} {M' : gMem} (hy : gIT w l y bytes maxL fr lo mc' ms' n Rm M Rm' M') (hB' : gBy (n + mc') Rm' M')
    (hw : (Cond.methodLink own idx y ∈ gG ∨ ∃ host, Cond.methodLinkNest own idx y host ∈ gNG) ∧ Cond.instanceMethod y ∈ gG ∧ Cond.initialized y.cls ∈ gG ∧ Cond.code y bytes maxL none ∈ gG ∧ y.name = "<init>" ∧ (y.cls ≠ "java/lang/invoke/MethodHandle" ∧ y.cls ≠ "java/lang/invoke/VarHandle" ∧ (parseMethodDescriptor y.desc).map (fun d => d.parameters.length) = some 0))
    (hn : n = n0 + cells) (hn1 : 1 ≤ n + mc') (hsz : ls.size = nL) (hW : (rest.map fun v => v.category).sum ≤ 8) (hR : fr + 1 ≤ R.frames ∧ 8 + (maxL + 11) + lo ≤ R.locals) (hf : cells + mc' ≤ R.cells ∧ slots + ms' ≤ R.slots) (d : decode cc pc = .ok (.invokespecial idx, 3))
    (kk : ∀ H1 locs1, gIH w (n + mc') Rm' M' s H1 locs1 → W p l e R s m args below meth c H1 locs1 (cells + mc') (slots + ms') Q (F0 m (pc + 3) ls rest)) : W p l e R s m args below meth c H locs cells slots Q (F0 m pc ls (.ref (w.1 + n) :: rest)) := by
  have ok := hC.b.fx.2.2.2.2
  have hp : PreS s H (va_Pc [.ref (w.1 + n)] (gIW w n Rm M)) [.ref (w.1 + n)] := ⟨fun _ _ _ _ h => ⟨h.1, gIW.blind h.2⟩, fun U hU hW' => ⟨rfl, gIW.at hC.b.kf hC.b.ff hC.2.1 hH hU hW'⟩⟩
  have hr : va_Run p l e R s m args below meth c H locs cells slots mc' ms' (F0 m pc ls (.ref (w.1 + n) :: rest)) rest (gIQ w (n + mc') Rm' M' [Value.ref (w.1 + n)].toArray) (gA w) := by
    rcases hw.1 with h | ⟨host, h⟩
    · exact va_runI (As := []) hC.b.fx hy (cwI 0 ok (gG_ws hw.2.2.2.1) rfl rfl rfl (ok _ hw.2.2.1) (ok _ h) (ok _ hw.2.1) hw.2.2.2.2.1 hw.2.2.2.2.2 hR) hp rfl rfl hsz rfl (lv_room hW) d hf
    · exact va_runIN (As := []) (host := host) hC.b.fx hy ⟨va_cnB 0 ok (gG_ws hw.2.2.2.1) rfl rfl rfl (hC.b.kf.2.1 _ h) (ok _ hw.2.2.1) hw.2.2.2.2.2 hR, hw.2.2.2.2.1, ok _ hw.2.1⟩ hp rfl rfl hsz rfl (lv_room hW) d hf
  intro T hT X
  obtain ⟨v, st₀, t, T', L, h0, X', hL, e1, e2, ⟨hret, hP, hF⟩, st⟩ := hr T hT X
  cases hret
  obtain ⟨k1, k2, k3⟩ := vx_keep h0 e1 hH.1.2.1 (fun _ _ z => z) (fun _ z => z) hL hF
  have hup := X'.heapSize
  have hlo : w.1 + (n + mc') < T'.heap.size := by
    have h1 := gws_at (w := w) (Rm := Rm') (M := M') (a := n + mc') (n := n + mc') hn1 (Nat.le_refl _)
    rw [e1]
    exact (hP.1 _ _ h1).lt
  have h3 := hC.2.2.2
  obtain ⟨t2, a1, b1⟩ := kk T'.heap (locs ++ L) ⟨⟨by rw [e1]; exact hP.1, k3, hP.2⟩, by omega, hB'⟩ T' rfl X'
  exact ⟨t2, st t2 a1, b1⟩
/-- an ordinary method's call in a constructor -/
theorem i_go {st : List Value} {oc : gOc} {v : Option Value} {M' : gMem} {P : Prop} {a : Array Value} (hC : gIC w p l s m args meth c cc nL own n0) (hH : gIH w n Rm M s H locs) (ho : oc = .inr v) (hB' : gBy n Rm M') (hn : n = n0 + cells)
    (hr : vx_Run p l e R s m args below meth c H locs cells slots 0 0 (F0 m pc ls st) rest (gRQ w n Rm oc M' P a) (gXQ w n Rm oc M') (gA w))
    (kk : P → ∀ H1 locs1, gIH w n Rm M' s H1 locs1 → W p l e R s m args below meth c H1 locs1 cells slots Q (F0 m (pc + 3) ls (v.toList ++ rest))) : W p l e R s m args below meth c H locs cells slots Q (F0 m pc ls st) := by
  subst ho
  intro T hT X
  rcases hr T hT X with ⟨v', st₀, t, T', L, h0, X', hL, e1, e2, ⟨hp, v2, hv, hret, hP, hF⟩, st⟩ | ⟨q, st₀, t, T', L, E, ce, h0, X', hL, e1, e2, ⟨hcon, -⟩, -⟩
  · cases hv
    cases hret
    obtain ⟨k1, k2, k3⟩ := vx_keep h0 e1 hH.1.2.1 (fun _ _ z => z) (fun _ z => z) hL hF
    have hup := X'.heapSize
    have hlo : H.size ≤ T'.heap.size := by rw [e1, ← h0]; exact hF.1
    have h3 := hC.2.2.2
    have h4 := hH.2.1
    obtain ⟨t2, a1, b1⟩ := kk hp T'.heap (locs ++ L) ⟨⟨by rw [e1]; exact hP.1, k3, hP.2⟩, by omega, hB'⟩ T' rfl X'
    exact ⟨t2, st t2 a1, b1⟩
  · cases hcon
theorem i_obj (hC : gIC w p l s m args meth c cc nL own n0) {idx : Nat} (hw : Cond.methodLink own idx objectInit ∈ gG) (hsz : ls.size = nL) {a : Nat} (hR : 1 ≤ R.frames ∧ 20 ≤ R.locals) (hW : (rest.map fun v => v.category).sum ≤ 8) (d : decode cc pc = .ok (.invokespecial idx, 3))
    (kk : W p l e R s m args below meth c H locs cells slots Q (F0 m (pc + 3) ls rest)) : W p l e R s m args below meth c H locs cells slots Q (F0 m pc ls (.ref a :: rest)) := by
  have ok := hC.b.fx.2.2.2.2
  have h1 : Cond.instanceMethod objectInit ∈ gG := gG_in 120 (by decide +kernel) (by decide +kernel)
  have h2 : Cond.code Lib.objectInit ⟨#[0xb1]⟩ 1 none ∈ gG := gG_in 121 (by decide +kernel) (by decide +kernel)
  exact W.objInit hC.b.fx.1 hC.b.fx.2.1 hC.b.fx.2.2.2.1 (ok _ hw) (ok _ h1) (ok _ h2) rfl (hsz.trans hC.b.fx.2.2.1.symm) rfl d hR.1 (by show 2 * 0 + _ + 12 ≤ _; omega) kk
theorem i_ret (hC : gIC w p l s m args meth c cc nL own n0) (hH : gIH w n Rm M s H locs) {Rm' : Nat → Nat → Nat} {M' : gMem} (hR : Rm' = Rm) (hMm : M' = M) (hc : cells ≤ mc ∧ slots ≤ ms) (hn : n = n0 + mc) (d : decode cc pc = .ok (.return_, 1)) : W p l e R s m args below meth c H locs cells slots (MQ below (gIQ w (n0 + mc) Rm' M') args s mc ms (gA w)) (F0 m pc ls []) := by
  subst hR hMm hn
  exact W.widen hc.1 hc.2 (W.vret hC.b.fx.1 hC.b.fx.2.1 hC.b.rt (fun t ht _ => ⟨rfl, ⟨by rw [ht]; exact hH.1.1, hH.1.2.2⟩, hH.1.2.1.F ht⟩) hH.1.2.1.2.2 d hC.b.lk)
end Make
/-! References set: where P holds they are the kept ones -/
noncomputable def gset (P : Nat → Nat → Prop) (Rm : Nat → Nat → Nat) : Nat → Nat → Nat := fun x k => @ite Nat (P x k) (Classical.propDecidable (P x k)) (gRm x k) (Rm x k)
theorem gset_or {P Q : Nat → Nat → Prop} {Rm : Nat → Nat → Nat} : gset Q (gset P Rm) = gset (fun x k => P x k ∨ Q x k) Rm := by
  funext x k
  unfold gset
  by_cases h1 : P x k
  · by_cases h2 : Q x k
    · rw [if_pos h2, if_pos (Or.inl h1)]
    · rw [if_neg h2, if_pos h1, if_pos (Or.inl h1)]
  · by_cases h2 : Q x k
    · rw [if_pos h2, if_pos (Or.inr h2)]
    · rw [if_neg h2, if_neg h1, if_neg (fun z => z.elim h1 h2)]
theorem gset_ru {P : Nat → Nat → Prop} {Rm : Nat → Nat → Nat} {a k b : Nat} (h : gRm a k = b) : gru (gset P Rm) a k b = gset (fun x j => P x j ∨ (x = a ∧ j = k)) Rm := by
  funext x j
  unfold gru gset
  by_cases h2 : x = a ∧ j = k
  · rw [if_pos h2, if_pos (Or.inr h2), h2.1, h2.2, h]
  · rw [if_neg h2]
    by_cases h1 : P x j
    · rw [if_pos h1, if_pos (Or.inl h1)]
    · rw [if_neg h1, if_neg (fun z => z.elim h1 h2)]
theorem gset_eq {P Q : Nat → Nat → Prop} {Rm : Nat → Nat → Nat} (h : ∀ x k, (P x k ↔ Q x k) ∨ Rm x k = gRm x k) : gset P Rm = gset Q Rm := by
  funext x k
  unfold gset
  rcases h x k with h1 | h1
  · by_cases h2 : P x k
    · rw [if_pos h2, if_pos (h1.mp h2)]
    · rw [if_neg h2, if_neg (fun z => h2 (h1.mpr z))]
  · rw [h1]
    split <;> split <;> rfl
theorem gset_no {P : Nat → Nat → Prop} {Rm : Nat → Nat → Nat} (h : ∀ x k, ¬ P x k) : gset P Rm = Rm := by
  funext x k
  unfold gset
  rw [if_neg (h x k)]
theorem gRm_of {a t k : Nat} (h : gsh a = t) : gRm a k = match gch t k with | some q => a + q.1 | none => 0 := by
  unfold gRm
  rw [h]
  cases gch t k <;> rfl
theorem gset_fin {P : Nat → Nat → Prop} {Rm : Nat → Nat → Nat} {n m : Nat} (hz : ∀ x, n ≤ x → ∀ k, Rm x k = 0) (hP : ∀ x k, P x k → n ≤ x ∧ x ≤ n + m) (hQ : ∀ j k, j ≤ m → ¬ P (n + j) k → gch (gsh (n + j)) k = none) : gset (fun x _ => n ≤ x ∧ x ≤ n + m) Rm = gset P Rm := by
  refine gset_eq (fun x k => ?_)
  by_cases h1 : P x k
  · exact Or.inl ⟨fun _ => h1, fun _ => hP x k h1⟩
  · by_cases h2 : n ≤ x ∧ x ≤ n + m
    · right
      rw [hz x h2.1 k]
      obtain ⟨j, rfl⟩ : ∃ j, x = n + j := ⟨x - n, by omega⟩
      unfold gRm
      rw [hQ j k (by omega) h1]
    · exact Or.inl ⟨fun z => absurd z h2, fun z => absurd z h1⟩
def gPat (L : List Nat) (n : Nat) : Prop := ∀ j, j < L.length → gsh (n + j) = L.getD j 0
theorem gPat.sub {L L' : List Nat} {n : Nat} (h : gPat L n) (o : Nat) (hs : ∀ j, j < L'.length → o + j < L.length ∧ L.getD (o + j) 0 = L'.getD j 0) : gPat L' (n + o) := fun j hj => by
  rw [Nat.add_assoc, h (o + j) (hs j hj).1, (hs j hj).2]
abbrev lLog : List Nat := [3, 656, 656, 656, 656]
abbrev lPile : List Nat := [4, 272]
abbrev lProc : List Nat := [5, 400, 400, 336]
abbrev lDesk : List Nat := [1, 148, 213, 80] ++ lLog ++ (List.replicate 8 lProc).flatten ++ (List.replicate 12 lPile).flatten
abbrev lReader : List Nat := [6, 9617] ++ lDesk
abbrev lWriter : List Nat := [7, 32017]
abbrev lHist : List Nat := [2, 150] ++ (List.replicate 8 lDesk).flatten
abbrev lFace : List Nat := [8] ++ lDesk ++ lDesk ++ lHist ++ [54] ++ lDesk ++ lDesk ++ [50] ++ lReader ++ lWriter
abbrev lModel : List Nat := [9, 19056, 19056, 19056, 152336, 38096, 50, 9616, 38416]
theorem gsL_eq : gsL = 0 :: (lFace ++ (lModel ++ [35])) := by decide +kernel
theorem lFace_len : lFace.length = 854 := by decide +kernel
theorem pat_Face : gPat lFace 1 := fun j hj => by
  unfold gsh
  rw [gsL_eq, Nat.add_comm 1 j, List.getD_eq_getElem?_getD, List.getD_eq_getElem?_getD, List.getElem?_cons_succ, List.getElem?_append_left hj]
theorem pat_Model : gPat lModel 855 := by
  unfold gPat
  intro j hj
  have h : ∀ j, j < 9 → gsh (855 + j) = lModel.getD j 0 := by decide +kernel
  exact h j hj
theorem gch_big {t k : Nat} (h : (gcl t).length ≤ k) : gch t k = none := by
  unfold gch
  rw [List.getD_eq_getElem?_getD, List.getElem?_eq_none h]
  rfl
theorem gfin_Q {L : List Nat} {n m : Nat} {P : Nat → Nat → Prop} (hg : gPat L n) (hm : m + 1 = L.length) (h : ∀ j k, j ≤ m → k < (gcl (L.getD j 0)).length → P (n + j) k) : ∀ j k, j ≤ m → ¬ P (n + j) k → gch (gsh (n + j)) k = none := fun j k hj hn => by
  rw [hg j (by omega)]
  refine gch_big ?_
  rcases Nat.lt_or_ge k (gcl (L.getD j 0)).length with h1 | h1
  · exact absurd (h j k hj h1) hn
  · exact h1
theorem gBy.set {n m : Nat} {P : Nat → Nat → Prop} {Rm : Nat → Nat → Nat} {M : gMem} (h : gBy n Rm M) (hm : n ≤ m) (hP : ∀ x k, P x k → x ≤ m) : gBy m (gset P Rm) M := fun x hx k => by
  unfold gset
  rw [if_neg (fun z => absurd (hP x k z) (by omega))]
  exact h x (by omega) k
section Make2
variable {p : Program} {l : Launch} {e : Env} {R : Room} {s : State} {m : MethodId} {args : Array Value} {below : List Frame} {meth : Method} {c : Code} {H : Heap} {locs : List Loc} {cells slots : Nat} {Q : State → Prop}
variable {cc : ByteArray} {nL : Nat} {own : String} {w : gW} {n n0 : Nat} {Rm : Nat → Nat → Nat} {M : gMem} {pc : Nat} {ls : Array Slot} {rest : List Value} {mc ms : Nat} {P : Nat → Nat → Prop}
theorem j_putR (hC : gIC w p l s m args meth c cc nL own n0) (hH : gIH w n (gset P Rm) M s H locs) (hn : n = n0 + cells) {a b t k idx : Nat} (f : gFR own idx t k) (ha : gIn n a t) (hb : gRm a k = b) (hb0 : b ≠ 0) (d : decode cc pc = .ok (.putfield idx, 3))
    (kk : ∀ H1 locs1, gIH w n (gset (fun x j => P x j ∨ (x = a ∧ j = k)) Rm) M s H1 locs1 → W p l e R s m args below meth c H1 locs1 cells slots Q (F0 m (pc + 3) ls rest)) : W p l e R s m args below meth c H locs cells slots Q (F0 m pc ls (.ref (w.1 + b) :: .ref (w.1 + a) :: rest)) :=
  i_putR hC hH hn f ha hb0 d (fun H1 locs1 h => kk H1 locs1 (by rw [← gset_ru hb]; exact h))
theorem j_aast (hC : gIC w p l s m args meth c cc nL own n0) (hH : gIH w n (gset P Rm) M s H locs) (hn : n = n0 + cells) {a b t t' kd i : Nat} {C : String} {T : u_T} {N : Nat} (hkd : (gty w)[kd]? = some (w.2.2.2.1 kd, .object C)) (hcl : vwCl[t' - 1]? = some (C, T, N)) (h16 : t' < 16) (h4 : 4 ≤ kd ∧ kd < 16) (ha : gIn n a t) (hb : gIn n b t') (ht : t % 16 = kd ∧ 16 ≤ t) (hi : i < t / 16 - 1) (hi1 : (i : Int) < 2147483648) (hr : gRm a i = b) (d : decode cc pc = .ok (.aastore, 1))
    (kk : ∀ H1 locs1, gIH w n (gset (fun x j => P x j ∨ (x = a ∧ j = i)) Rm) M s H1 locs1 → W p l e R s m args below meth c H1 locs1 cells slots Q (F0 m (pc + 1) ls rest)) : W p l e R s m args below meth c H locs cells slots Q (F0 m pc ls (.ref (w.1 + b) :: .int (gi (i : Int)) :: .ref (w.1 + a) :: rest)) :=
  i_aast hC hH hn hkd hcl h16 h4 ha hb ht hi hi1 d (fun H1 locs1 h => kk H1 locs1 (by rw [← gset_ru hr]; exact h))
theorem j_call (hC : gIC w p l s m args meth c cc nL own n0) (hH : gIH w n (gset P Rm) M s H locs) {y : MethodName} {bytes : ByteArray} {maxL idx fr lo mc' ms' : Nat} {M' : gMem} (hy : gIT w l y bytes maxL fr lo mc' ms' n (gset P Rm) M (gset (fun x _ => n ≤ x ∧ x ≤ n + mc') (gset P Rm)) M') (hM' : ∀ x, n + mc' < x → ∀ k, M' x k = 0)
    (hw : (Cond.methodLink own idx y ∈ gG ∨ ∃ host, Cond.methodLinkNest own idx y host ∈ gNG) ∧ Cond.instanceMethod y ∈ gG ∧ Cond.initialized y.cls ∈ gG ∧ Cond.code y bytes maxL none ∈ gG ∧ y.name = "<init>" ∧ (y.cls ≠ "java/lang/invoke/MethodHandle" ∧ y.cls ≠ "java/lang/invoke/VarHandle" ∧ (parseMethodDescriptor y.desc).map (fun d => d.parameters.length) = some 0))
    (hn : n = n0 + cells) (hn1 : 1 ≤ n + mc') (hsz : ls.size = nL) (hW : (rest.map fun v => v.category).sum ≤ 8) (hR : fr + 1 ≤ R.frames ∧ 8 + (maxL + 11) + lo ≤ R.locals) (hf : cells + mc' ≤ R.cells ∧ slots + ms' ≤ R.slots) (d : decode cc pc = .ok (.invokespecial idx, 3))
    (kk : ∀ H1 locs1, gIH w (n + mc') (gset (fun x j => P x j ∨ (n ≤ x ∧ x ≤ n + mc')) Rm) M' s H1 locs1 → W p l e R s m args below meth c H1 locs1 (cells + mc') (slots + ms') Q (F0 m (pc + 3) ls rest)) : W p l e R s m args below meth c H locs cells slots Q (F0 m pc ls (.ref (w.1 + n) :: rest)) :=
  i_call hC hH hy (fun x hx k => ⟨((hH.2.2.set (m := n + mc') (P := fun x _ => n ≤ x ∧ x ≤ n + mc') (by omega) (fun x k z => z.2)) x hx k).1, hM' x hx k⟩) hw hn hn1 hsz hW hR hf d (fun H1 locs1 h => kk H1 locs1 (by rw [← gset_or (Q := fun x _ => n ≤ x ∧ x ≤ n + mc')]; exact h))
theorem gIH.ch {Q : Nat → Nat → Prop} (hH : gIH w n (gset P Rm) M s H locs) (h : ∀ x k, P x k ↔ Q x k) : gIH w n (gset Q Rm) M s H locs := by
  rw [← gset_eq (P := P) (Q := Q) (Rm := Rm) (fun x k => Or.inl (h x k))]
  exact hH
theorem i_getR (hM : gMC w p l s m args meth c cc nL own none) (hH : gIH w n Rm M s H locs) {a t k idx b : Nat} (f : gFL own idx t k 2) (ha : gIn n a t) (hb : Rm a k = b) (hb0 : b ≠ 0) (d : decode cc pc = .ok (.getfield idx, 3))
    (kk : W p l e R s m args below meth c H locs cells slots Q (F0 m (pc + 3) ls (.ref (w.1 + b) :: rest))) : W p l e R s m args below meth c H locs cells slots Q (F0 m pc ls (.ref (w.1 + a) :: rest)) := by
  obtain ⟨C, T, N, f1, f2, f3, f4, f5, f6, f7⟩ := f
  have hC := hM.fx
  have he := gws_at (w := w) (Rm := Rm) (M := M) ha.1 ha.2.1
  rw [gen_obj ha.2.2 f3] at he
  refine va_get hC.1 hC.2.1 hC.2.2.2.2 f6 hC.2.2.2.1 hM.kf.1 hH.1.1 (a - 1) he f1 k f4 (hC.2.2.2.2 _ f5) (fun _ z => z) (v := .ref (w.1 + b)) ?_ d kk
  rw [gfs_at f7]
  show some (gvR w (Rm a k)) = _
  rw [hb]
  unfold gvR
  rw [if_neg hb0]
theorem gset_at {a k : Nat} (h : P a k) : gset P Rm a k = gRm a k := by
  unfold gset
  rw [if_pos h]
end Make2
