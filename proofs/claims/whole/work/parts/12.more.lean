def gOcT {α : Type} (f : α → Option Value) : Nat ⊕ α → gOc
  | .inl e => .inl (gEx e)
  | .inr z => .inr (f z)
theorem gz_r {x : Int} (h : x = 0 ∨ x = 1) : gRI x := by rcases h with rfl | rfl <;> exact ⟨by omega, by omega⟩
theorem gar_ne {t kd : Nat} (h : gAr t kd) : t ≠ 0 := by have := h.1; omega
theorem gth_of {own cls : String} {ic : Nat} (h : (vx_atS own ic cls ["java/lang/RuntimeException", "java/lang/Exception"]).all (fun x => decide (x ∈ lw_tbl) && (goodWord x || gNw x)) = true) : ∀ x ∈ vx_atS own ic cls ["java/lang/RuntimeException", "java/lang/Exception"], x ∈ gG ∨ x ∈ gNG := by
  intro x hx
  have h1 := List.all_eq_true.mp h x hx
  simp only [Bool.and_eq_true, Bool.or_eq_true, decide_eq_true_eq] at h1
  exact h1.2.elim (fun q => Or.inl (List.mem_filter.mpr ⟨h1.1, q⟩)) (fun q => Or.inr (List.mem_filter.mpr ⟨h1.1, q⟩))
theorem gu_of {C : String} {T : u_T} {N : Nat} (h : (u_ws C T N).all (fun x => decide (x ∈ lw_tbl) && goodWord x) = true) : ∀ x ∈ u_ws C T N, x ∈ gG := by
  intro x hx
  have h1 := List.all_eq_true.mp h x hx
  simp only [Bool.and_eq_true, decide_eq_true_eq] at h1
  exact List.mem_filter.mpr h1
theorem gtx_all : (gtxL.all fun q => decide (q.length < 100) && q.all fun x => decide (0 ≤ x ∧ x < 128)) = true := by decide +kernel
theorem gtx_mem {i : Nat} : gtx i ∈ gtxL ∨ gtx i = [] := by
  unfold gtx
  rw [List.getD_eq_getElem?_getD]
  cases h : gtxL[i]? with
  | none => exact Or.inr rfl
  | some q => exact Or.inl (List.mem_of_getElem? h)
theorem gtx_len (i : Nat) : gRI ((gtx i).length : Int) := by
  rcases gtx_mem (i := i) with h | h
  · have h1 := List.all_eq_true.mp gtx_all _ h
    simp only [Bool.and_eq_true, decide_eq_true_eq] at h1
    exact ⟨by omega, by omega⟩
  · rw [h]; exact ⟨by decide, by decide⟩
theorem gtx_r (i k : Nat) : gRI ((gtx i).getD k 0) := by
  rcases gtx_mem (i := i) with h | h
  · have h1 := List.all_eq_true.mp gtx_all _ h
    simp only [Bool.and_eq_true, decide_eq_true_eq] at h1
    rw [List.getD_eq_getElem?_getD]
    cases h2 : (gtx i)[k]? with
    | none => exact ⟨by decide, by decide⟩
    | some x =>
      have h3 := List.all_eq_true.mp h1.2 x (List.mem_of_getElem? h2)
      simp only [decide_eq_true_eq] at h3
      exact ⟨by simp only [Option.getD_some]; omega, by simp only [Option.getD_some]; omega⟩
  · rw [h]; exact ⟨by simp, by simp⟩
section More
variable {p : Program} {l : Launch} {e : Env} {R : Room} {s : State} {m : MethodId} {args : Array Value} {below : List Frame} {meth : Method} {c : Code} {H : Heap} {locs : List Loc} {cells slots : Nat} {Q : State → Prop}
variable {cc : ByteArray} {nL : Nat} {own : String} {ret : Option FieldType} {w : gW} {n : Nat} {Rm : Nat → Nat → Nat} {M : gMem} {pc : Nat} {ls : Array Slot} {rest : List Value} {mc ms : Nat}
theorem r_null (hC : CallFix p m c cc nL s args gG own) (d : decode cc pc = .ok (.aconst_null, 1)) (k : W p l e R s m args below meth c H locs cells slots Q (F0 m (pc + 1) ls (gvR w 0 :: rest))) : W p l e R s m args below meth c H locs cells slots Q (F0 m pc ls rest) := lv_null hC.1 hC.2.1 d k
end More
