/-! Numbers, branches, calls, ends -/
section Rows2
variable {p : Program} {l : Launch} {e : Env} {R : Room} {s : State} {m : MethodId} {args : Array Value} {below : List Frame} {meth : Method} {c : Code} {H : Heap} {locs : List Loc} {cells slots : Nat} {Q : State → Prop}
variable {cc : ByteArray} {nL : Nat} {own : String} {w : gW} {n : Nat} {Rm : Nat → Nat → Nat} {M : gMem} {pc : Nat} {ls : Array Slot} {rest : List Value}
theorem r_iadd (hC : CallFix p m c cc nL s args gG own) {x y : Int} (d : decode cc pc = .ok (.iadd, 1)) (k : W p l e R s m args below meth c H locs cells slots Q (F0 m (pc + 1) ls (.int (gi (gwi (x + y))) :: rest))) : W p l e R s m args below meth c H locs cells slots Q (F0 m pc ls (.int (gi y) :: .int (gi x) :: rest)) := lv_iadd hC.1 hC.2.1 d (by rw [gi_add]; exact k)
theorem r_isub (hC : CallFix p m c cc nL s args gG own) {x y : Int} (d : decode cc pc = .ok (.isub, 1)) (k : W p l e R s m args below meth c H locs cells slots Q (F0 m (pc + 1) ls (.int (gi (gwi (x - y))) :: rest))) : W p l e R s m args below meth c H locs cells slots Q (F0 m pc ls (.int (gi y) :: .int (gi x) :: rest)) := lv_isub hC.1 hC.2.1 d (by rw [gi_sub]; exact k)
theorem r_imul (hC : CallFix p m c cc nL s args gG own) {x y : Int} (d : decode cc pc = .ok (.imul, 1)) (k : W p l e R s m args below meth c H locs cells slots Q (F0 m (pc + 1) ls (.int (gi (gwi (x * y))) :: rest))) : W p l e R s m args below meth c H locs cells slots Q (F0 m pc ls (.int (gi y) :: .int (gi x) :: rest)) := lv_imul hC.1 hC.2.1 d (by rw [gi_mul]; exact k)
theorem r_ineg (hC : CallFix p m c cc nL s args gG own) {x : Int} (d : decode cc pc = .ok (.ineg, 1)) (k : W p l e R s m args below meth c H locs cells slots Q (F0 m (pc + 1) ls (.int (gi (gwi (-x))) :: rest))) : W p l e R s m args below meth c H locs cells slots Q (F0 m pc ls (.int (gi x) :: rest)) := lv_ineg hC.1 hC.2.1 d (by rw [gi_neg]; exact k)
theorem gne0 {y : Int} (hy : gRI y) (h0 : y ≠ 0) : ¬ gi y = 0 := fun h => h0 ((gi_eq hy (y := 0) ⟨by omega, by omega⟩).mp h)
theorem r_idiv (hC : CallFix p m c cc nL s args gG own) {x y : Int} (hx : gRI x) (hy : gRI y) (h0 : y ≠ 0) (d : decode cc pc = .ok (.idiv, 1)) (k : W p l e R s m args below meth c H locs cells slots Q (F0 m (pc + 1) ls (.int (gi (gwi (x.tdiv y))) :: rest))) : W p l e R s m args below meth c H locs cells slots Q (F0 m pc ls (.int (gi y) :: .int (gi x) :: rest)) := lv_idiv hC.1 hC.2.1 d (gne0 hy h0) (by rw [gi_div hx hy]; exact k)
theorem r_irem (hC : CallFix p m c cc nL s args gG own) {x y : Int} (hx : gRI x) (hy : gRI y) (h0 : y ≠ 0) (d : decode cc pc = .ok (.irem, 1)) (k : W p l e R s m args below meth c H locs cells slots Q (F0 m (pc + 1) ls (.int (gi (x.tmod y)) :: rest))) : W p l e R s m args below meth c H locs cells slots Q (F0 m pc ls (.int (gi y) :: .int (gi x) :: rest)) := lv_irem hC.1 hC.2.1 d (gne0 hy h0) (by rw [gi_rem hx hy]; exact k)
theorem r_iand (hC : CallFix p m c cc nL s args gG own) {x y : Int} (d : decode cc pc = .ok (.iand, 1)) (k : W p l e R s m args below meth c H locs cells slots Q (F0 m (pc + 1) ls (.int (gi (gand x y)) :: rest))) : W p l e R s m args below meth c H locs cells slots Q (F0 m pc ls (.int (gi y) :: .int (gi x) :: rest)) := lv_iand hC.1 hC.2.1 d (by rw [gand_i]; exact k)
theorem r_ior (hC : CallFix p m c cc nL s args gG own) {x y : Int} (d : decode cc pc = .ok (.ior, 1)) (k : W p l e R s m args below meth c H locs cells slots Q (F0 m (pc + 1) ls (.int (gi (gor x y)) :: rest))) : W p l e R s m args below meth c H locs cells slots Q (F0 m pc ls (.int (gi y) :: .int (gi x) :: rest)) := lv_ior hC.1 hC.2.1 d (by rw [gor_i]; exact k)
theorem r_ixor (hC : CallFix p m c cc nL s args gG own) {x y : Int} (d : decode cc pc = .ok (.ixor, 1)) (k : W p l e R s m args below meth c H locs cells slots Q (F0 m (pc + 1) ls (.int (gi (gxor x y)) :: rest))) : W p l e R s m args below meth c H locs cells slots Q (F0 m pc ls (.int (gi y) :: .int (gi x) :: rest)) := lv_ixor hC.1 hC.2.1 d (by rw [gxor_i]; exact k)
theorem r_ishl (hC : CallFix p m c cc nL s args gG own) {x y : Int} (d : decode cc pc = .ok (.ishl, 1)) (k : W p l e R s m args below meth c H locs cells slots Q (F0 m (pc + 1) ls (.int (gi (gshl x y)) :: rest))) : W p l e R s m args below meth c H locs cells slots Q (F0 m pc ls (.int (gi y) :: .int (gi x) :: rest)) := lv_ishl hC.1 hC.2.1 d (by rw [gshl_i]; exact k)
theorem r_ishr (hC : CallFix p m c cc nL s args gG own) {x y : Int} (d : decode cc pc = .ok (.ishr, 1)) (k : W p l e R s m args below meth c H locs cells slots Q (F0 m (pc + 1) ls (.int (gi (gshr x y)) :: rest))) : W p l e R s m args below meth c H locs cells slots Q (F0 m pc ls (.int (gi y) :: .int (gi x) :: rest)) := lv_ishr hC.1 hC.2.1 d (by rw [gshr_i]; exact k)
theorem r_ladd (hC : CallFix p m c cc nL s args gG own) {x y : Int} (d : decode cc pc = .ok (.ladd, 1)) (k : W p l e R s m args below meth c H locs cells slots Q (F0 m (pc + 1) ls (.long (gj (gwl (x + y))) :: rest))) : W p l e R s m args below meth c H locs cells slots Q (F0 m pc ls (.long (gj y) :: .long (gj x) :: rest)) := lv_ladd hC.1 hC.2.1 d (by rw [gj_add]; exact k)
theorem r_lsub (hC : CallFix p m c cc nL s args gG own) {x y : Int} (d : decode cc pc = .ok (.lsub, 1)) (k : W p l e R s m args below meth c H locs cells slots Q (F0 m (pc + 1) ls (.long (gj (gwl (x - y))) :: rest))) : W p l e R s m args below meth c H locs cells slots Q (F0 m pc ls (.long (gj y) :: .long (gj x) :: rest)) := lv_lsub hC.1 hC.2.1 d (by rw [gj_sub]; exact k)
theorem r_lmul (hC : CallFix p m c cc nL s args gG own) {x y : Int} (d : decode cc pc = .ok (.lmul, 1)) (k : W p l e R s m args below meth c H locs cells slots Q (F0 m (pc + 1) ls (.long (gj (gwl (x * y))) :: rest))) : W p l e R s m args below meth c H locs cells slots Q (F0 m pc ls (.long (gj y) :: .long (gj x) :: rest)) := lv_lmul hC.1 hC.2.1 d (by rw [gj_mul]; exact k)
theorem r_lor (hC : CallFix p m c cc nL s args gG own) {x y : Int} (d : decode cc pc = .ok (.lor, 1)) (k : W p l e R s m args below meth c H locs cells slots Q (F0 m (pc + 1) ls (.long (gj (glor x y)) :: rest))) : W p l e R s m args below meth c H locs cells slots Q (F0 m pc ls (.long (gj y) :: .long (gj x) :: rest)) := lv_lor hC.1 hC.2.1 d (by rw [glor_j]; exact k)
theorem r_land (hC : CallFix p m c cc nL s args gG own) {x y : Int} (d : decode cc pc = .ok (.land, 1)) (k : W p l e R s m args below meth c H locs cells slots Q (F0 m (pc + 1) ls (.long (gj (gland x y)) :: rest))) : W p l e R s m args below meth c H locs cells slots Q (F0 m pc ls (.long (gj y) :: .long (gj x) :: rest)) := lv_land hC.1 hC.2.1 d (by rw [gland_j]; exact k)
theorem r_lshl (hC : CallFix p m c cc nL s args gG own) {x y : Int} (d : decode cc pc = .ok (.lshl, 1)) (k : W p l e R s m args below meth c H locs cells slots Q (F0 m (pc + 1) ls (.long (gj (glshl x y)) :: rest))) : W p l e R s m args below meth c H locs cells slots Q (F0 m pc ls (.int (gi y) :: .long (gj x) :: rest)) := lv_lshl hC.1 hC.2.1 d (glshl_j x y) k
theorem r_lshr (hC : CallFix p m c cc nL s args gG own) {x y : Int} (d : decode cc pc = .ok (.lshr, 1)) (k : W p l e R s m args below meth c H locs cells slots Q (F0 m (pc + 1) ls (.long (gj (glshr x y)) :: rest))) : W p l e R s m args below meth c H locs cells slots Q (F0 m pc ls (.int (gi y) :: .long (gj x) :: rest)) := lv_lshr hC.1 hC.2.1 d (glshr_j x y) k
theorem r_i2l (hC : CallFix p m c cc nL s args gG own) {x : Int} (hx : gRI x) (d : decode cc pc = .ok (.i2l, 1)) (k : W p l e R s m args below meth c H locs cells slots Q (F0 m (pc + 1) ls (.long (gj x) :: rest))) : W p l e R s m args below meth c H locs cells slots Q (F0 m pc ls (.int (gi x) :: rest)) := lv_i2l hC.1 hC.2.1 d (gi2l hx) k
theorem r_l2i (hC : CallFix p m c cc nL s args gG own) {x : Int} (d : decode cc pc = .ok (.l2i, 1)) (k : W p l e R s m args below meth c H locs cells slots Q (F0 m (pc + 1) ls (.int (gi (gwi x)) :: rest))) : W p l e R s m args below meth c H locs cells slots Q (F0 m pc ls (.long (gj x) :: rest)) := lv_l2i hC.1 hC.2.1 d (gl2i x) k
theorem r_i2b (hC : CallFix p m c cc nL s args gG own) {x : Int} (d : decode cc pc = .ok (.i2b, 1)) (k : W p l e R s m args below meth c H locs cells slots Q (F0 m (pc + 1) ls (.int (gi (gwb x)) :: rest))) : W p l e R s m args below meth c H locs cells slots Q (F0 m pc ls (.int (gi x) :: rest)) := lv_i2b hC.1 hC.2.1 d (gi2b x) k
theorem glcmp_i {x y : Int} (hx : gRL x) (hy : gRL y) : lg_cmp (gj x) (gj y) = gi (glcmp x y) := by
  unfold lg_cmp glcmp
  rcases Int.lt_trichotomy x y with h | h | h
  · rw [if_neg (by intro q; have := (gj_lt hy hx).mp q; omega), if_neg (by intro q; have := (gj_eq hx hy).mp q; omega), if_pos h]; rfl
  · rw [if_neg (by intro q; have := (gj_lt hy hx).mp q; omega), if_pos ((gj_eq hx hy).mpr h), if_neg (by omega), if_pos h]; rfl
  · rw [if_pos ((gj_lt hy hx).mpr h), if_neg (by omega), if_neg (by omega)]; rfl
theorem r_lcmp (hC : CallFix p m c cc nL s args gG own) {x y : Int} (hx : gRL x) (hy : gRL y) (d : decode cc pc = .ok (.lcmp, 1)) (k : W p l e R s m args below meth c H locs cells slots Q (F0 m (pc + 1) ls (.int (gi (glcmp x y)) :: rest))) : W p l e R s m args below meth c H locs cells slots Q (F0 m pc ls (.long (gj y) :: .long (gj x) :: rest)) := W.lcmp hC.1 hC.2.1 d (by rw [glcmp_i hx hy]; exact k)
theorem r_iinc (hC : CallFix p m c cc nL s args gG own) {i k : Nat} {x z : Int} {lv lv' : List (Nat × Value)} (d : decode cc pc = .ok (.iinc i z, 3)) (h : lv_has ls nL lv) (hk : lv[k]? = some (i, .int (gi x))) (hn : i < nL) (hl : (i, Value.int (gi (gwi (x + z)))) :: lv.filter (fun q => !(q.1 == i) && !(q.1 + 1 == i && q.2.category == 2)) = lv')
    (kk : ∀ ls' : Array Slot, lv_has ls' nL lv' → W p l e R s m args below meth c H locs cells slots Q (F0 m (pc + 3) ls' rest)) : W p l e R s m args below meth c H locs cells slots Q (F0 m pc ls rest) :=
  lv_iinc hC.1 hC.2.1 d h hk (v := gi (gwi (x + z))) (by rw [← gi_add]; rfl) hn hl kk
theorem r_ldc (hC : CallFix p m c cc nL s args gG own) {index : Nat} {v : Int32} {x : Int} (hw : Cond.constant own index v ∈ gG) (hv : v = gi x) (d : decode cc pc = .ok (.ldc index, 2)) (k : W p l e R s m args below meth c H locs cells slots Q (F0 m (pc + 2) ls (.int (gi x) :: rest))) : W p l e R s m args below meth c H locs cells slots Q (F0 m pc ls rest) := lv_ldc hC.1 hC.2.1 hC.2.2.2.1 (hC.2.2.2.2 _ hw) d (by rw [hv]; exact k)
theorem r_ldc2 (hC : CallFix p m c cc nL s args gG own) {index : Nat} {v : Int64} {x : Int} (hw : Cond.constantLong own index v ∈ gG) (hv : v = gj x) (d : decode cc pc = .ok (.ldc2_w index, 3)) (k : W p l e R s m args below meth c H locs cells slots Q (F0 m (pc + 3) ls (.long (gj x) :: rest))) : W p l e R s m args below meth c H locs cells slots Q (F0 m pc ls rest) := lv_ldc2 hC.1 hC.2.1 hC.2.2.2.1 (hC.2.2.2.2 _ hw) d (by rw [hv]; exact k)
/-- a text constant: row i of gSL -/
def gsR (w : gW) (i : Nat) : Value := .ref (w.2.2.2.2.1 i)
theorem r_ldcS (hC : CallFix p m c cc nL s args gG own) (hK : gKF w s) {index : Nat} {tx : String} (i : Nat) (hi : gSL[i]? = some (own, index, tx)) (d : decode cc pc = .ok (.ldc index, 2)) (k : W p l e R s m args below meth c H locs cells slots Q (F0 m (pc + 2) ls (gsR w i :: rest))) : W p l e R s m args below meth c H locs cells slots Q (F0 m pc ls rest) := va_ldcS hC.1 hC.2.1 hC.2.2.2.1 (hK.2.2 i (own, index, tx) hi) d k
theorem r_mmax (hC : CallFix p m c cc nL s args gG own) (hsz : ls.size = nL) {index : Nat} (hw : Cond.methodLink own index Lib.Math.max.name ∈ gG ∧ Cond.static Lib.Math.max.name ∈ gG ∧ Cond.initialized "java/lang/Math" ∈ gG ∧ Cond.code Lib.Math.max.name Lib.Math.max.code 2 (some .int) ∈ gG)
    (hR : 1 ≤ R.frames ∧ (rest.map fun v => v.category).sum + 13 ≤ R.locals) (hc : cells ≤ R.cells ∧ slots ≤ R.slots) {x y : Int} (hx : gRI x) (hy : gRI y) (d : decode cc pc = .ok (.invokestatic index, 3))
    (k : W p l e R s m args below meth c H locs cells slots Q (F0 m (pc + 3) ls (.int (gi (gmax x y)) :: rest))) : W p l e R s m args below meth c H locs cells slots Q (F0 m pc ls (.int (gi y) :: .int (gi x) :: rest)) := by
  refine va_mmax hC.1 hC.2.1 (hC.2.2.1.trans hsz.symm) hC.2.2.2.1 (hC.2.2.2.2 _ hw.1) (hC.2.2.2.2 _ hw.2.1) (hC.2.2.2.2 _ hw.2.2.1) (hC.2.2.2.2 _ hw.2.2.2) hR.1 hR.2 hc.1 hc.2 d ?_
  have h : (if gi x < gi y then gi y else gi x) = gi (gmax x y) := by
    unfold gmax
    by_cases h : x < y
    · rw [if_pos h, if_pos ((gi_lt hx hy).mpr h)]
    · rw [if_neg h, if_neg (fun q => h ((gi_lt hx hy).mp q))]
  rw [h]; exact k
theorem r_mmin (hC : CallFix p m c cc nL s args gG own) (hsz : ls.size = nL) {index : Nat} (hw : Cond.methodLink own index Lib.Math.min.name ∈ gG ∧ Cond.static Lib.Math.min.name ∈ gG ∧ Cond.initialized "java/lang/Math" ∈ gG ∧ Cond.code Lib.Math.min.name Lib.Math.min.code 2 (some .int) ∈ gG)
    (hR : 1 ≤ R.frames ∧ (rest.map fun v => v.category).sum + 13 ≤ R.locals) (hc : cells ≤ R.cells ∧ slots ≤ R.slots) {x y : Int} (hx : gRI x) (hy : gRI y) (d : decode cc pc = .ok (.invokestatic index, 3))
    (k : W p l e R s m args below meth c H locs cells slots Q (F0 m (pc + 3) ls (.int (gi (gmin x y)) :: rest))) : W p l e R s m args below meth c H locs cells slots Q (F0 m pc ls (.int (gi y) :: .int (gi x) :: rest)) := by
  refine va_mmin hC.1 hC.2.1 (hC.2.2.1.trans hsz.symm) hC.2.2.2.1 (hC.2.2.2.2 _ hw.1) (hC.2.2.2.2 _ hw.2.1) (hC.2.2.2.2 _ hw.2.2.1) (hC.2.2.2.2 _ hw.2.2.2) hR.1 hR.2 hc.1 hc.2 d ?_
  have h : (if gi y < gi x then gi y else gi x) = gi (gmin x y) := by
    unfold gmin
    by_cases h : y < x
    · rw [if_pos h, if_pos ((gi_lt hy hx).mpr h)]
    · rw [if_neg h, if_neg (fun q => h ((gi_lt hy hx).mp q))]
  rw [h]; exact k
-- branches
theorem g0 : gRI 0 := ⟨by omega, by omega⟩
theorem r_if_lt (hC : CallFix p m c cc nL s args gG own) {x : Int} (hx : gRI x) {off : Int} {tgt : Nat} (d : decode cc pc = .ok (.ifCond .lt off, 3)) (ht : (pc : Int) + off = (tgt : Int)) (kt : x < 0 → W p l e R s m args below meth c H locs cells slots Q (F0 m tgt ls rest)) (kf : ¬ x < 0 → W p l e R s m args below meth c H locs cells slots Q (F0 m (pc + 3) ls rest)) : W p l e R s m args below meth c H locs cells slots Q (F0 m pc ls (.int (gi x) :: rest)) := lv_if_lt hC.1 hC.2.1 d ht (fun h => kt ((gi_lt hx g0).mp h)) (fun h => kf (fun q => h ((gi_lt hx g0).mpr q)))
theorem r_if_ge (hC : CallFix p m c cc nL s args gG own) {x : Int} (hx : gRI x) {off : Int} {tgt : Nat} (d : decode cc pc = .ok (.ifCond .ge off, 3)) (ht : (pc : Int) + off = (tgt : Int)) (kt : 0 ≤ x → W p l e R s m args below meth c H locs cells slots Q (F0 m tgt ls rest)) (kf : ¬ 0 ≤ x → W p l e R s m args below meth c H locs cells slots Q (F0 m (pc + 3) ls rest)) : W p l e R s m args below meth c H locs cells slots Q (F0 m pc ls (.int (gi x) :: rest)) := lv_if_ge hC.1 hC.2.1 d ht (fun h => kt ((gi_le g0 hx).mp h)) (fun h => kf (fun q => h ((gi_le g0 hx).mpr q)))
theorem r_if_gt (hC : CallFix p m c cc nL s args gG own) {x : Int} (hx : gRI x) {off : Int} {tgt : Nat} (d : decode cc pc = .ok (.ifCond .gt off, 3)) (ht : (pc : Int) + off = (tgt : Int)) (kt : 0 < x → W p l e R s m args below meth c H locs cells slots Q (F0 m tgt ls rest)) (kf : ¬ 0 < x → W p l e R s m args below meth c H locs cells slots Q (F0 m (pc + 3) ls rest)) : W p l e R s m args below meth c H locs cells slots Q (F0 m pc ls (.int (gi x) :: rest)) := lv_if_gt hC.1 hC.2.1 d ht (fun h => kt ((gi_lt g0 hx).mp h)) (fun h => kf (fun q => h ((gi_lt g0 hx).mpr q)))
theorem r_if_le (hC : CallFix p m c cc nL s args gG own) {x : Int} (hx : gRI x) {off : Int} {tgt : Nat} (d : decode cc pc = .ok (.ifCond .le off, 3)) (ht : (pc : Int) + off = (tgt : Int)) (kt : x ≤ 0 → W p l e R s m args below meth c H locs cells slots Q (F0 m tgt ls rest)) (kf : ¬ x ≤ 0 → W p l e R s m args below meth c H locs cells slots Q (F0 m (pc + 3) ls rest)) : W p l e R s m args below meth c H locs cells slots Q (F0 m pc ls (.int (gi x) :: rest)) := lv_if_le hC.1 hC.2.1 d ht (fun h => kt ((gi_le hx g0).mp h)) (fun h => kf (fun q => h ((gi_le hx g0).mpr q)))
theorem r_if_eq (hC : CallFix p m c cc nL s args gG own) {x : Int} (hx : gRI x) {off : Int} {tgt : Nat} (d : decode cc pc = .ok (.ifCond .eq off, 3)) (ht : (pc : Int) + off = (tgt : Int)) (kt : x = 0 → W p l e R s m args below meth c H locs cells slots Q (F0 m tgt ls rest)) (kf : ¬ x = 0 → W p l e R s m args below meth c H locs cells slots Q (F0 m (pc + 3) ls rest)) : W p l e R s m args below meth c H locs cells slots Q (F0 m pc ls (.int (gi x) :: rest)) := lv_if_eq hC.1 hC.2.1 d ht (fun h => kt ((gi_eq hx g0).mp h)) (fun h => kf (fun q => h ((gi_eq hx g0).mpr q)))
theorem r_if_ne (hC : CallFix p m c cc nL s args gG own) {x : Int} (hx : gRI x) {off : Int} {tgt : Nat} (d : decode cc pc = .ok (.ifCond .ne off, 3)) (ht : (pc : Int) + off = (tgt : Int)) (kt : ¬ x = 0 → W p l e R s m args below meth c H locs cells slots Q (F0 m tgt ls rest)) (kf : x = 0 → W p l e R s m args below meth c H locs cells slots Q (F0 m (pc + 3) ls rest)) : W p l e R s m args below meth c H locs cells slots Q (F0 m pc ls (.int (gi x) :: rest)) := lv_if_ne hC.1 hC.2.1 d ht (fun h => kt (fun q => h ((gi_eq hx g0).mpr q))) (fun h => kf ((gi_eq hx g0).mp h))
theorem r_icmp_lt (hC : CallFix p m c cc nL s args gG own) {x y : Int} (hx : gRI x) (hy : gRI y) {off : Int} {tgt : Nat} (d : decode cc pc = .ok (.if_icmp .lt off, 3)) (ht : (pc : Int) + off = (tgt : Int)) (kt : x < y → W p l e R s m args below meth c H locs cells slots Q (F0 m tgt ls rest)) (kf : ¬ x < y → W p l e R s m args below meth c H locs cells slots Q (F0 m (pc + 3) ls rest)) : W p l e R s m args below meth c H locs cells slots Q (F0 m pc ls (.int (gi y) :: .int (gi x) :: rest)) := lv_icmp_lt hC.1 hC.2.1 d ht (fun h => kt ((gi_lt hx hy).mp h)) (fun h => kf (fun q => h ((gi_lt hx hy).mpr q)))
theorem r_icmp_gt (hC : CallFix p m c cc nL s args gG own) {x y : Int} (hx : gRI x) (hy : gRI y) {off : Int} {tgt : Nat} (d : decode cc pc = .ok (.if_icmp .gt off, 3)) (ht : (pc : Int) + off = (tgt : Int)) (kt : y < x → W p l e R s m args below meth c H locs cells slots Q (F0 m tgt ls rest)) (kf : ¬ y < x → W p l e R s m args below meth c H locs cells slots Q (F0 m (pc + 3) ls rest)) : W p l e R s m args below meth c H locs cells slots Q (F0 m pc ls (.int (gi y) :: .int (gi x) :: rest)) := lv_icmp_gt hC.1 hC.2.1 d ht (fun h => kt ((gi_lt hy hx).mp h)) (fun h => kf (fun q => h ((gi_lt hy hx).mpr q)))
theorem r_icmp_le (hC : CallFix p m c cc nL s args gG own) {x y : Int} (hx : gRI x) (hy : gRI y) {off : Int} {tgt : Nat} (d : decode cc pc = .ok (.if_icmp .le off, 3)) (ht : (pc : Int) + off = (tgt : Int)) (kt : x ≤ y → W p l e R s m args below meth c H locs cells slots Q (F0 m tgt ls rest)) (kf : ¬ x ≤ y → W p l e R s m args below meth c H locs cells slots Q (F0 m (pc + 3) ls rest)) : W p l e R s m args below meth c H locs cells slots Q (F0 m pc ls (.int (gi y) :: .int (gi x) :: rest)) := lv_icmp_le hC.1 hC.2.1 d ht (fun h => kt ((gi_le hx hy).mp h)) (fun h => kf (fun q => h ((gi_le hx hy).mpr q)))
theorem r_icmp_ge (hC : CallFix p m c cc nL s args gG own) {x y : Int} (hx : gRI x) (hy : gRI y) {off : Int} {tgt : Nat} (d : decode cc pc = .ok (.if_icmp .ge off, 3)) (ht : (pc : Int) + off = (tgt : Int)) (kt : y ≤ x → W p l e R s m args below meth c H locs cells slots Q (F0 m tgt ls rest)) (kf : ¬ y ≤ x → W p l e R s m args below meth c H locs cells slots Q (F0 m (pc + 3) ls rest)) : W p l e R s m args below meth c H locs cells slots Q (F0 m pc ls (.int (gi y) :: .int (gi x) :: rest)) := lv_icmp_ge hC.1 hC.2.1 d ht (fun h => kt ((gi_le hy hx).mp h)) (fun h => kf (fun q => h ((gi_le hy hx).mpr q)))
theorem r_icmp_eq (hC : CallFix p m c cc nL s args gG own) {x y : Int} (hx : gRI x) (hy : gRI y) {off : Int} {tgt : Nat} (d : decode cc pc = .ok (.if_icmp .eq off, 3)) (ht : (pc : Int) + off = (tgt : Int)) (kt : x = y → W p l e R s m args below meth c H locs cells slots Q (F0 m tgt ls rest)) (kf : ¬ x = y → W p l e R s m args below meth c H locs cells slots Q (F0 m (pc + 3) ls rest)) : W p l e R s m args below meth c H locs cells slots Q (F0 m pc ls (.int (gi y) :: .int (gi x) :: rest)) := lv_icmp_eq hC.1 hC.2.1 d ht (fun h => kt ((gi_eq hx hy).mp h)) (fun h => kf (fun q => h ((gi_eq hx hy).mpr q)))
theorem r_icmp_ne (hC : CallFix p m c cc nL s args gG own) {x y : Int} (hx : gRI x) (hy : gRI y) {off : Int} {tgt : Nat} (d : decode cc pc = .ok (.if_icmp .ne off, 3)) (ht : (pc : Int) + off = (tgt : Int)) (kt : ¬ x = y → W p l e R s m args below meth c H locs cells slots Q (F0 m tgt ls rest)) (kf : x = y → W p l e R s m args below meth c H locs cells slots Q (F0 m (pc + 3) ls rest)) : W p l e R s m args below meth c H locs cells slots Q (F0 m pc ls (.int (gi y) :: .int (gi x) :: rest)) := lv_icmp_ne hC.1 hC.2.1 d ht (fun h => kt (fun q => h ((gi_eq hx hy).mpr q))) (fun h => kf ((gi_eq hx hy).mp h))
theorem r_ifnull (hC : CallFix p m c cc nL s args gG own) {a : Nat} {off : Int} {tgt : Nat} (d : decode cc pc = .ok (.ifnull off, 3)) (ht : (pc : Int) + off = (tgt : Int)) (kt : a = 0 → W p l e R s m args below meth c H locs cells slots Q (F0 m tgt ls rest)) (kf : ¬ a = 0 → W p l e R s m args below meth c H locs cells slots Q (F0 m (pc + 3) ls rest)) : W p l e R s m args below meth c H locs cells slots Q (F0 m pc ls (gvR w a :: rest)) := by
  unfold gvR
  by_cases h : a = 0
  · rw [if_pos h]; exact lv_ifnullN hC.1 hC.2.1 d ht (kt h)
  · rw [if_neg h]; exact lv_ifnull hC.1 hC.2.1 d (kf h)
theorem r_ifnonnull (hC : CallFix p m c cc nL s args gG own) {a : Nat} {off : Int} {tgt : Nat} (d : decode cc pc = .ok (.ifnonnull off, 3)) (ht : (pc : Int) + off = (tgt : Int)) (kt : ¬ a = 0 → W p l e R s m args below meth c H locs cells slots Q (F0 m tgt ls rest)) (kf : a = 0 → W p l e R s m args below meth c H locs cells slots Q (F0 m (pc + 3) ls rest)) : W p l e R s m args below meth c H locs cells slots Q (F0 m pc ls (gvR w a :: rest)) := by
  unfold gvR
  by_cases h : a = 0
  · rw [if_pos h]; exact lv_ifnonnullN hC.1 hC.2.1 d (kf h)
  · rw [if_neg h]; exact lv_ifnonnull hC.1 hC.2.1 d ht (kt h)
theorem gvR_nn {a : Nat} (h : ¬ a = 0) : gvR w a = .ref (w.1 + a) := if_neg h
theorem gvR_in {a t : Nat} (h : gIn n a t) : Value.ref (w.1 + a) = gvR w a := (if_neg (by have := h.1; omega)).symm
theorem gvR_cat (a : Nat) : (gvR w a).category = 1 := by unfold gvR; split <;> rfl
theorem r_tsIn (hC : CallFix p m c cc nL s args gG own) {x : Int} (hx : gRI x) {dflt lo hi : Int} {offs : Array Int} {len : Nat} (k : Int) {off : Int} {tgt : Nat} (d : decode cc pc = .ok (.tableswitch dflt lo hi offs, len)) (hk : x = k) (h1 : lo ≤ k ∧ k ≤ hi) (ho : offs[(k - lo).toNat]? = some off) (ht : (pc : Int) + off = (tgt : Int))
    (kk : W p l e R s m args below meth c H locs cells slots Q (F0 m tgt ls rest)) : W p l e R s m args below meth c H locs cells slots Q (F0 m pc ls (.int (gi x) :: rest)) := by
  subst hk
  exact lv_tableIn hC.1 hC.2.1 d (by rw [gi_toInt hx]; omega) (by rw [gi_toInt hx]; omega) (by rw [gi_toInt hx]; exact ho) ht kk
theorem r_tsOut (hC : CallFix p m c cc nL s args gG own) {x : Int} (hx : gRI x) {dflt lo hi : Int} {offs : Array Int} {len : Nat} {tgt : Nat} (d : decode cc pc = .ok (.tableswitch dflt lo hi offs, len)) (h : x < lo ∨ hi < x) (ht : (pc : Int) + dflt = (tgt : Int))
    (kk : W p l e R s m args below meth c H locs cells slots Q (F0 m tgt ls rest)) : W p l e R s m args below meth c H locs cells slots Q (F0 m pc ls (.int (gi x) :: rest)) :=
  lv_tableOut hC.1 hC.2.1 d (by rw [gi_toInt hx]; exact h) ht kk
theorem r_aload_nV (hC : CallFix p m c cc nL s args gG own) {k : Fin 4} {i a : Nat} (d : decode cc pc = .ok (.aload_n k, 1)) (hi : (k : Nat) = i) (hl : ls[i]? = some (.val (gvR w a))) (kk : W p l e R s m args below meth c H locs cells slots Q (F0 m (pc + 1) ls (gvR w a :: rest))) : W p l e R s m args below meth c H locs cells slots Q (F0 m pc ls rest) := by
  unfold gvR at hl kk
  by_cases h : a = 0
  · rw [if_pos h] at hl kk; exact lv_aload_nN hC.1 hC.2.1 d hi hl kk
  · rw [if_neg h] at hl kk; exact lv_aload_n hC.1 hC.2.1 d hi hl kk
theorem r_aloadV (hC : CallFix p m c cc nL s args gG own) {i a : Nat} (d : decode cc pc = .ok (.aload i, 2)) (hl : ls[i]? = some (.val (gvR w a))) (kk : W p l e R s m args below meth c H locs cells slots Q (F0 m (pc + 2) ls (gvR w a :: rest))) : W p l e R s m args below meth c H locs cells slots Q (F0 m pc ls rest) := by
  unfold gvR at hl kk
  by_cases h : a = 0
  · rw [if_pos h] at hl kk; exact lv_aloadN hC.1 hC.2.1 d hl kk
  · rw [if_neg h] at hl kk; exact lv_aload hC.1 hC.2.1 d hl kk
theorem r_astore_nV (hC : CallFix p m c cc nL s args gG own) {k : Fin 4} {i nL a : Nat} {lv lv' : List (Nat × Value)} (d : decode cc pc = .ok (.astore_n k, 1)) (hi : (k : Nat) = i) (h : lv_has ls nL lv) (hn : i < nL) (hl : (i, gvR w a) :: lv.filter (fun q => !(q.1 == i) && !(q.1 + 1 == i && q.2.category == 2)) = lv')
    (kk : ∀ ls' : Array Slot, lv_has ls' nL lv' → W p l e R s m args below meth c H locs cells slots Q (F0 m (pc + 1) ls' rest)) : W p l e R s m args below meth c H locs cells slots Q (F0 m pc ls (gvR w a :: rest)) := by
  unfold gvR at hl ⊢
  by_cases h0 : a = 0
  · rw [if_pos h0] at hl ⊢; exact lv_astore_nN hC.1 hC.2.1 d hi h hn hl kk
  · rw [if_neg h0] at hl ⊢; exact lv_astore_n hC.1 hC.2.1 d hi h hn hl kk
theorem r_astoreV (hC : CallFix p m c cc nL s args gG own) {i nL a : Nat} {lv lv' : List (Nat × Value)} (d : decode cc pc = .ok (.astore i, 2)) (h : lv_has ls nL lv) (hn : i < nL) (hl : (i, gvR w a) :: lv.filter (fun q => !(q.1 == i) && !(q.1 + 1 == i && q.2.category == 2)) = lv')
    (kk : ∀ ls' : Array Slot, lv_has ls' nL lv' → W p l e R s m args below meth c H locs cells slots Q (F0 m (pc + 2) ls' rest)) : W p l e R s m args below meth c H locs cells slots Q (F0 m pc ls (gvR w a :: rest)) := by
  unfold gvR at hl ⊢
  by_cases h0 : a = 0
  · rw [if_pos h0] at hl ⊢; exact lv_astoreN hC.1 hC.2.1 d h hn hl kk
  · rw [if_neg h0] at hl ⊢; exact lv_astore hC.1 hC.2.1 d h hn hl kk
theorem r_ldcw (hC : CallFix p m c cc nL s args gG own) {index : Nat} {v : Int32} {x : Int} (hw : Cond.constant own index v ∈ gG) (hv : v = gi x) (d : decode cc pc = .ok (.ldc_w index, 3)) (k : W p l e R s m args below meth c H locs cells slots Q (F0 m (pc + 3) ls (.int (gi x) :: rest))) : W p l e R s m args below meth c H locs cells slots Q (F0 m pc ls rest) := lv_ldcw hC.1 hC.2.1 hC.2.2.2.1 (hC.2.2.2.2 _ hw) d (by rw [hv]; exact k)
/-- a lookupswitch -/
theorem r_ls (hC : CallFix p m c cc nL s args gG own) {x : Int} (hx : gRI x) {dflt : Int} {ps : Array (Int × Int)} {len : Nat} {off : Int} {tgt : Nat} (d : decode cc pc = .ok (.lookupswitch dflt ps, len)) (hp : (ps.toList.zip (ps.toList.drop 1)).all (fun (a, next) => a.1 < next.1) = true) (ho : Op.lookupswitch.offset ps.toList dflt x = off) (ht : (pc : Int) + off = (tgt : Int))
    (kk : W p l e R s m args below meth c H locs cells slots Q (F0 m tgt ls rest)) : W p l e R s m args below meth c H locs cells slots Q (F0 m pc ls (.int (gi x) :: rest)) :=
  lv_lookup hC.1 hC.2.1 d hp (by rw [gi_toInt hx]; exact ho) ht kk
/-- a copy between arrays of ints -/
theorem gcp_gen {M : gMem} {sa sp da dp k b : Nat} (h : b ≠ da) : gen w Rm (gcp M sa sp da dp k) b = gen w Rm M b := gen_cong (by funext j; unfold gcp; rw [if_neg (fun z => h z.1)])
theorem r_copy (hC : CallFix p m c cc nL s args gG own) (hK : gKF w s) (hH : gH w n Rm M s H locs) (hsz : ls.size = nL) {index : Nat} (hw : Cond.methodLink own index arraycopyName ∈ gG ∧ Cond.native arraycopyName ∈ gG ∧ Cond.static arraycopyName ∈ gG ∧ Cond.initialized "java/lang/System" ∈ gG)
    {a b ta tb : Nat} {sp dp k : Int} (ha : gIn n a ta) (hA : gAr ta 0) (hb : gIn n b tb) (hB : gAr tb 0) (hr : gRI sp ∧ gRI dp ∧ gRI k) (h1 : 0 ≤ sp ∧ 0 ≤ dp ∧ 0 ≤ k) (h2 : sp + k ≤ ((ta / 16 - 1 : Nat) : Int)) (h3 : dp + k ≤ ((tb / 16 - 1 : Nat) : Int))
    (hR : 1 ≤ R.frames ∧ (rest.map fun v => v.category).sum + (nativeFrameWords "java/lang/System" "arraycopy" 5 + 11) ≤ R.locals) (d : decode cc pc = .ok (.invokestatic index, 3))
    (kk : ∀ H1 locs1, gH w n Rm (gcp M a sp.toNat b dp.toNat k.toNat) s H1 locs1 → W p l e R s m args below meth c H1 locs1 cells slots Q (F0 m (pc + 3) ls rest)) : W p l e R s m args below meth c H locs cells slots Q (F0 m pc ls (.int (gi k) :: .int (gi dp) :: .ref (w.1 + b) :: .int (gi sp) :: .ref (w.1 + a) :: rest)) := by
  refine va_copyi hC.1 hC.2.1 (hC.2.2.1.trans hsz.symm) hC.2.2.2.1 (hC.2.2.2.2 _ hw.1) (hC.2.2.2.2 _ hw.2.1) (hC.2.2.2.2 _ hw.2.2.1) (hC.2.2.2.2 _ hw.2.2.2) hK.1 hH.1 (gD w n Rm M) hH.2.1 (a - 1) (b - 1) 0 0 (r_ald_he ha hA (by omega)) (r_ald_he hb hB (by omega)) rfl rfl rfl
    (gneg hr.1 h1.1) (gneg hr.2.1 h1.2.1) (gneg hr.2.2 h1.2.2) (by rw [gclamp hr.1, gclamp hr.2.2]; omega) (by rw [gclamp hr.2.1, gclamp hr.2.2]; omega) (fun _ _ => rfl) hR.1 hR.2 d (fun H1 locs1 hP _ hS => ?_)
  refine kk H1 locs1 ⟨?_, hS, ?_⟩
  · rw [gclamp hr.1, gclamp hr.2.1, gclamp hr.2.2] at hP
    have hu : (Sum.inl (va_cpy (fun j => gi (M a j)) (fun j => gi (M b j)) sp.toNat dp.toNat k.toNat) : (Nat → Int32) ⊕ (Nat → Int64) ⊕ (Nat → UInt32) ⊕ (Nat → UInt64) ⊕ (Nat → Option Nat)) = gar w Rm (gcp M a sp.toNat b dp.toNat k.toNat) 0 b := by
      rw [gar_i (by omega)]
      congr 1
      funext j
      unfold va_cpy gcp
      by_cases hj : dp.toNat ≤ j ∧ j < dp.toNat + k.toNat
      · rw [if_pos hj, if_pos ⟨rfl, hj⟩]
      · rw [if_neg hj, if_neg (fun z => hj z.2)]
    rw [hu] at hP
    have h0 := gen_arr (w := w) (Rm := Rm) (M := gcp M a sp.toNat b dp.toNat k.toNat) hb.2.2 hB.1
    rw [hB.2] at h0
    rw [← h0] at hP
    rwa [gws_set hb.1 rfl (fun b' hb' => gcp_gen hb')] at hP
  · intro x j
    unfold gcp
    by_cases hc : x = b ∧ dp.toNat ≤ j ∧ j < dp.toNat + k.toNat
    · rw [if_pos hc, hc.1, hb.2.2, glg_a hB]
      exact hH.2.2.i ha.2.2 (glg_a hA)
    · rw [if_neg hc]
      exact hH.2.2 x j
end Rows2
