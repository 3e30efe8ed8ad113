/-! Rows of the law for what it makes itself -/
section MakeL
variable {p : Program} {l : Launch} {e : Env} {R : Room} {s : State} {m : MethodId} {args : Array Value} {below : List Frame} {meth : Method} {c : Code} {H : Heap} {locs : List Loc} {cells slots : Nat} {Q : State → Prop}
variable {cc : ByteArray} {nL : Nat} {own : String} {w : gW} {n n0 : Nat} {Rm : Nat → Nat → Nat} {M : gMem} {pc : Nat} {ls : Array Slot} {rest : List Value} {mc ms : Nat}
theorem d_new (hC : gMD w p l s m args c cc nL own) (hH : gIH w n Rm M s H locs) {idx t : Nat} (hk : gNK own idx t) (ht : gsh (n + 1) = t) (hf : cells + 1 ≤ R.cells ∧ slots + (gfk t).length ≤ R.slots) (d : decode cc pc = .ok (.new idx, 3))
    (kk : ∀ H1, gIH w (n + 1) Rm M s H1 locs → W p l e R s m args below meth c H1 locs (cells + 1) (slots + (gfk t).length) Q (F0 m (pc + 3) ls (.ref (w.1 + (n + 1)) :: rest))) : W p l e R s m args below meth c H locs cells slots Q (F0 m pc ls rest) := by
  obtain ⟨C, T, N, ty, f1, f2, f3, f4, f5, f6, f7, f8, f9, f10⟩ := hk
  have ok := hC.fx.2.2.2.2
  have hKn := hC.kf.1.1 (t - 1) _ f1
  rw [f4] at hf kk
  obtain ⟨⟨hP, hS, hR⟩, hz, hB⟩ := hH
  refine W.newcK hC.fx.1 hC.fx.2.1 hC.fx.2.2.2.1 (ok _ f7) (ok _ f8) (ok _ f9) rfl d hf.1 hf.2 hKn.2.1 (h := w.1 + n + 1) hz fun H1 kC hkC e1 z1 o1 => ?_
  have hk : ∀ (k : Nat) (x : Nat × va_E), (gws w n Rm M)[k]? = some x → H1[x.1]? = H[x.1]? := fun k x hx => o1 x.1 (by rw [← hz]; exact (hP k x hx).lt)
  refine kk H1 ⟨⟨?_, ⟨Nat.le_trans hS.1 (by omega), fun x h1 h2 => (o1 x (by rw [← hz]; exact Nat.lt_of_lt_of_le h1 hS.1)).trans (hS.2.1 x h1 h2), hS.2.2⟩, hR⟩, by omega, hB.succ (by omega)⟩
  rw [gws_succ]
  refine (hP.kept hk).app (fun k x hx => ?_)
  have hz : k < 1 := (List.getElem?_eq_some_iff.mp hx).1
  rw [show k = 0 by omega] at hx
  cases hx
  rw [gen_obj ht f3]
  refine ⟨_, f1, (u_born ty ok f10 hKn hkC e1 f5).to (fun j hj => ?_)⟩
  rw [f6 j hj]
  unfold vp_V
  rw [← f4] at hj
  have h9 : (gfs w Rm M t (n + 1))[j]? = some (gdv ((gfk t).getD j 0)) := by
    rw [gfs_at (q := (gfk t).getD j 0) (by rw [List.getD_eq_getElem?_getD, List.getElem?_eq_getElem hj]; rfl), gfv_0 hB]
  have h10 : ∀ (xs : List Value) (v : Value), xs[j]? = some v → v = xs.getD j .null := fun xs v h => by
    rw [List.getD_eq_getElem?_getD, h]
    rfl
  exact h10 _ _ h9
theorem d_newa (hC : gMD w p l s m args c cc nL own) (hH : gIH w n Rm M s H locs) {atype : ArrayType} {ty : FieldType} {kd L : Nat} (harr : Cond.arrayClass ty ∈ gG) (hty : newarray.typeOf atype = ty) (hkd : (gty w)[kd]? = some (w.2.2.2.1 kd, ty)) (hdv : defaultValue ty = if kd = 3 then .long 0 else .int 0) (h4 : kd < 4) (ht : gsh (n + 1) = 16 * (L + 1) + kd) (hL : (L : Int) < 2147483648) (hbytes : L * componentBytes ty ≤ 536870912) (hf : cells + 1 ≤ R.cells ∧ slots + L ≤ R.slots) (d : decode cc pc = .ok (.newarray atype, 2))
    (kk : ∀ H1, gIH w (n + 1) Rm M s H1 locs → W p l e R s m args below meth c H1 locs (cells + 1) (slots + L) Q (F0 m (pc + 2) ls (.ref (w.1 + (n + 1)) :: rest))) : W p l e R s m args below meth c H locs cells slots Q (F0 m pc ls (.int (gi (L : Int)) :: rest)) := by
  have ok := hC.fx.2.2.2.2
  obtain ⟨⟨hP, hS, hR⟩, hz, hB⟩ := hH
  have hra := (hC.kf.1.2 kd _ hkd).2
  subst hty
  have hra : s.vm.findClass ("[" ++ (newarray.typeOf atype).toString) = some (w.2.2.2.1 kd) := by cases atype <;> exact hra
  refine va_newaK hC.fx.1 hC.fx.2.1 (ok _ harr) rfl d rfl (gneg (gcR (by omega)) (by omega)) (N := L) (by rw [gclamp (gcR (by omega))]; omega) hbytes hf.1 hf.2 hz fun H1 cA e1 z1 o1 hAr hNm => ?_
  cases Option.some.inj (hNm.symm.trans hra)
  have hk : ∀ (k : Nat) (x : Nat × va_E), (gws w n Rm M)[k]? = some x → H1[x.1]? = H[x.1]? := fun k x hx => o1 x.1 (by rw [← hz]; exact (hP k x hx).lt)
  refine kk H1 ⟨⟨?_, ⟨Nat.le_trans hS.1 (by omega), fun x h1 h2 => (o1 x (by rw [← hz]; exact Nat.lt_of_lt_of_le h1 hS.1)).trans (hS.2.1 x h1 h2), hS.2.2⟩, hR⟩, by omega, hB.succ (by omega)⟩
  rw [gws_succ]
  refine (hP.kept hk).app (fun k x hx => ?_)
  have hz : k < 1 := (List.getElem?_eq_some_iff.mp hx).1
  rw [show k = 0 by omega] at hx
  cases hx
  rw [gen_arr ht (by omega)]
  rw [show (16 * (L + 1) + kd) % 16 = kd by omega, show (16 * (L + 1) + kd) / 16 - 1 = L by omega]
  show H1[w.1 + n + 1]? = some (vp_cell _ _)
  rw [e1, hdv]
  by_cases h3 : kd = 3
  · subst h3
    rw [if_pos rfl, gar_l, vp_cell_l]
    simp only [(hB (n + 1) (by omega) _).2]
    rfl
  · rw [if_neg h3, gar_i (by omega), vp_cell_i]
    simp only [(hB (n + 1) (by omega) _).2]
    rfl
theorem d_call (hC : gMD w p l s m args c cc nL own) (hO : gAO s) (hz0 : s.heap.size = w.1 + n0 + 1) (hH : gIH w n Rm M s H locs) {y : MethodName} {bytes : ByteArray} {maxL idx fr lo mc' ms' : Nat} {Rm' : Nat → Nat → Nat} {M' : gMem} (hy : gIT w l y bytes maxL fr lo mc' ms' n Rm M Rm' M') (hB' : gBy (n + mc') Rm' M')
    (hw : (Cond.methodLink own idx y ∈ gG ∨ ∃ host, Cond.methodLinkNest own idx y host ∈ gNG) ∧ Cond.instanceMethod y ∈ gG ∧ Cond.initialized y.cls ∈ gG ∧ Cond.code y bytes maxL none ∈ gG ∧ y.name = "<init>" ∧ (y.cls ≠ "java/lang/invoke/MethodHandle" ∧ y.cls ≠ "java/lang/invoke/VarHandle" ∧ (parseMethodDescriptor y.desc).map (fun d => d.parameters.length) = some 0))
    (hn : n = n0 + cells) (hn1 : 1 ≤ n + mc') (hsz : ls.size = nL) (hW : (rest.map fun v => v.category).sum ≤ 8) (hR : fr + 1 ≤ R.frames ∧ 8 + (maxL + 11) + lo ≤ R.locals) (hf : cells + mc' ≤ R.cells ∧ slots + ms' ≤ R.slots) (d : decode cc pc = .ok (.invokespecial idx, 3))
    (kk : ∀ H1 locs1, gIH w (n + mc') Rm' M' s H1 locs1 → W p l e R s m args below meth c H1 locs1 (cells + mc') (slots + ms') Q (F0 m (pc + 3) ls rest)) : W p l e R s m args below meth c H locs cells slots Q (F0 m pc ls (.ref (w.1 + n) :: rest)) := by
  have ok := hC.fx.2.2.2.2
  have hp : PreS s H (va_Pc [.ref (w.1 + n)] (gIW w n Rm M)) [.ref (w.1 + n)] := ⟨fun _ _ _ _ h => ⟨h.1, gIW.blind h.2⟩, fun U hU hW' => ⟨rfl, gIW.at hC.kf hC.ff hO hH hU hW'⟩⟩
  have hr : va_Run p l e R s m args below meth c H locs cells slots mc' ms' (F0 m pc ls (.ref (w.1 + n) :: rest)) rest (gIQ w (n + mc') Rm' M' [Value.ref (w.1 + n)].toArray) (gA w) := by
    rcases hw.1 with h | ⟨host, h⟩
    · exact va_runI (As := []) hC.fx hy (cwI 0 ok (gG_ws hw.2.2.2.1) rfl rfl rfl (ok _ hw.2.2.1) (ok _ h) (ok _ hw.2.1) hw.2.2.2.2.1 hw.2.2.2.2.2 hR) hp rfl rfl hsz rfl (lv_room hW) d hf
    · exact va_runIN (As := []) (host := host) hC.fx hy ⟨va_cnB 0 ok (gG_ws hw.2.2.2.1) rfl rfl rfl (hC.kf.2.1 _ h) (ok _ hw.2.2.1) hw.2.2.2.2.2 hR, hw.2.2.2.2.1, ok _ hw.2.1⟩ hp rfl rfl hsz rfl (lv_room hW) d hf
  intro T hT X
  obtain ⟨v, st₀, t, T', L, h0, X', hL, e1, e2, ⟨hret, hP, hF⟩, st⟩ := hr T hT X
  cases hret
  obtain ⟨k1, k2, k3⟩ := vx_keep h0 e1 hH.1.2.1 (fun _ _ z => z) (fun _ z => z) hL hF
  have hup := X'.heapSize
  have hlo : w.1 + (n + mc') < T'.heap.size := by
    have h1 := gws_at (w := w) (Rm := Rm') (M := M') (a := n + mc') (n := n + mc') hn1 (Nat.le_refl _)
    rw [e1]
    exact (hP.1 _ _ h1).lt
  have h3 := hz0
  obtain ⟨t2, a1, b1⟩ := kk T'.heap (locs ++ L) ⟨⟨by rw [e1]; exact hP.1, k3, hP.2⟩, by omega, hB'⟩ T' rfl X'
  exact ⟨t2, st t2 a1, b1⟩
end MakeL
