/-! One-instruction rows over the world -/
def gFL (own : String) (idx t k q : Nat) : Prop := ∃ (C : String) (T : u_T) (N : Nat), vwCl[t - 1]? = some (C, T, N) ∧ 1 ≤ t ∧ t < 16 ∧ k < N ∧ Cond.fieldLink own idx (T k).1 (T k).2.1 (T k).2.2.1 ∈ gG ∧ (∀ x ∈ u_ws C T N, x ∈ gG) ∧ (gfk t)[k]? = some q
def gTY (q : Nat) : FieldType := if q = 1 then .long else .int
def gFP (own : String) (idx t k q : Nat) : Prop := ∃ (C : String) (T : u_T) (N : Nat) (ty0 : Nat → FieldType), vwCl[t - 1]? = some (C, T, N) ∧ 1 ≤ t ∧ t < 16 ∧ k < N ∧ Cond.fieldLink own idx (T k).1 (T k).2.1 (T k).2.2.1 ∈ gG ∧ (∀ x ∈ u_ws C T N, x ∈ gG) ∧ (gfk t)[k]? = some q ∧
  (∀ k, k < N → parseFieldDescriptor (T k).2.2.1 = some (ty0 k)) ∧ (∀ a, a < N → ∀ b, b < N → a ≠ b → (T a).2.1 ≠ (T b).2.1) ∧ (T k).2.2.2 = false ∧ parseFieldDescriptor (T k).2.2.1 = some (gTY q) ∧ q < 2
def gIn (n a t : Nat) : Prop := 1 ≤ a ∧ a ≤ n ∧ gsh a = t
theorem gLC.in {g : Nat → Nat} {n : Nat} {Rm : Nat → Nat → Nat} (h : gLC g n Rm) {a t : Nat} (ha : g a = t) (ht : t ≠ 0) : gIn n a t := by
  have h1 := (h a (by rw [ha]; exact ht)).1
  exact ⟨h1.1, h1.2.1, h1.2.2.trans ha⟩
theorem gLC.ch {g : Nat → Nat} {n : Nat} {Rm : Nat → Nat → Nat} (h : gLC g n Rm) {a t k o q : Nat} (ha : g a = t) (ht : t ≠ 0) (hc : gch t k = some (o, q)) : g (a + o) = q := by
  have h1 := (h a (by rw [ha]; exact ht)).2 k (o, q) (by rw [ha]; exact hc)
  exact h1.2
theorem gLC.rm {g : Nat → Nat} {n : Nat} {Rm : Nat → Nat → Nat} (h : gLC g n Rm) {a t k o q : Nat} (ha : g a = t) (ht : t ≠ 0) (hc : gch t k = some (o, q)) : Rm a k = a + o := by
  have h1 := (h a (by rw [ha]; exact ht)).2 k (o, q) (by rw [ha]; exact hc)
  exact h1.1
theorem gen_obj {w : gW} {Rm : Nat → Nat → Nat} {M : gMem} {a t : Nat} (h : gsh a = t) (h16 : t < 16) : gen w Rm M a = .inr (t - 1, gfs w Rm M t a) := by
  unfold gen
  rw [h, if_pos h16]
theorem gen_arr {w : gW} {Rm : Nat → Nat → Nat} {M : gMem} {a t : Nat} (h : gsh a = t) (h16 : 16 ≤ t) : gen w Rm M a = .inl (w.2.2.2.1 (t % 16), t / 16 - 1, gar w Rm M (t % 16) a) := by
  unfold gen
  rw [h, if_neg (by omega)]
theorem gfs_at {w : gW} {Rm : Nat → Nat → Nat} {M : gMem} {a t k q : Nat} (h : (gfk t)[k]? = some q) : (gfs w Rm M t a)[k]? = some (gfv w Rm M a k q) := by
  unfold gfs
  rw [List.getElem?_mapIdx, h]
  rfl
theorem gfs_set {w : gW} {Rm : Nat → Nat → Nat} {M : gMem} {a t k q : Nat} {v : Int} {x : Value} (h : (gfk t)[k]? = some q) (hx : x = gfv w Rm (gup M a k v) a k q) : (gfs w Rm M t a).set k x = gfs w Rm (gup M a k v) t a := by
  apply List.ext_getElem?
  intro i
  unfold gfs
  rw [List.getElem?_set, List.getElem?_mapIdx, List.getElem?_mapIdx]
  by_cases hi : k = i
  · subst hi
    have hlt := (List.getElem?_eq_some_iff.mp h).1
    rw [if_pos rfl, if_pos (by simpa using hlt), h, hx]
    rfl
  · rw [if_neg hi]
    cases hq : (gfk t)[i]? with
    | none => rfl
    | some q' =>
      simp only [Option.map_some]
      congr 1
      unfold gfv gup
      rw [if_neg (show ¬ (a = a ∧ i = k) from fun z => hi z.2.symm)]
theorem gRG.up {M : gMem} (h : gRG M) {a k : Nat} {v : Int} (hv : if glg (gsh a) k = true then gRL v else gRI v) : gRG (gup M a k v) := by
  intro x j
  unfold gup
  by_cases hc : x = a ∧ j = k
  · rw [if_pos hc, hc.1, hc.2]; exact hv
  · rw [if_neg hc]; exact h x j
theorem gRG.i {M : gMem} (h : gRG M) {a k t : Nat} (ht : gsh a = t) (hq : glg t k = false) : gRI (M a k) := by
  have h1 := h a k
  rw [ht, hq] at h1
  exact h1
theorem gRG.l {M : gMem} (h : gRG M) {a k t : Nat} (ht : gsh a = t) (hq : glg t k = true) : gRL (M a k) := by
  have h1 := h a k
  rw [ht, hq] at h1
  exact h1
theorem gRG.upI {M : gMem} (h : gRG M) {a k t : Nat} {v : Int} (ht : gsh a = t) (hq : glg t k = false) (hv : gRI v) : gRG (gup M a k v) := h.up (by rw [ht, hq]; exact hv)
theorem gRG.upL {M : gMem} (h : gRG M) {a k t : Nat} {v : Int} (ht : gsh a = t) (hq : glg t k = true) (hv : gRL v) : gRG (gup M a k v) := h.up (by rw [ht, hq]; exact hv)
theorem glg_f {t k q : Nat} (h16 : t < 16) (h : (gfk t)[k]? = some q) : glg t k = (q == 1) := by
  unfold glg
  rw [if_pos h16, List.getD_eq_getElem?_getD, h]
  rfl
section Rows
variable {p : Program} {l : Launch} {e : Env} {R : Room} {s : State} {m : MethodId} {args : Array Value} {below : List Frame} {meth : Method} {c : Code} {H : Heap} {locs : List Loc} {cells slots : Nat} {Q : State → Prop}
variable {cc : ByteArray} {nL : Nat} {own : String} {w : gW} {n : Nat} {Rm : Nat → Nat → Nat} {M : gMem} {pc : Nat} {ls : Array Slot} {rest : List Value}
theorem r_getI (hC : CallFix p m c cc nL s args gG own) (hK : gKF w s) (hH : gH w n Rm M s H locs) {a t k idx : Nat} (f : gFL own idx t k 0) (ha : gIn n a t) (d : decode cc pc = .ok (.getfield idx, 3))
    (kk : W p l e R s m args below meth c H locs cells slots Q (F0 m (pc + 3) ls (.int (gi (M a k)) :: rest))) : W p l e R s m args below meth c H locs cells slots Q (F0 m pc ls (.ref (w.1 + a) :: rest)) := by
  obtain ⟨C, T, N, f1, f2, f3, f4, f5, f6, f7⟩ := f
  have he := gws_at (w := w) (Rm := Rm) (M := M) ha.1 ha.2.1
  rw [gen_obj ha.2.2 f3] at he
  exact va_get hC.1 hC.2.1 hC.2.2.2.2 f6 hC.2.2.2.1 hK.1 hH.1 (a - 1) he f1 k f4 (hC.2.2.2.2 _ f5) (fun _ z => z) (v := .int (gi (M a k))) (by rw [gfs_at f7]; rfl) d kk
theorem r_getL (hC : CallFix p m c cc nL s args gG own) (hK : gKF w s) (hH : gH w n Rm M s H locs) {a t k idx : Nat} (f : gFL own idx t k 1) (ha : gIn n a t) (d : decode cc pc = .ok (.getfield idx, 3))
    (kk : W p l e R s m args below meth c H locs cells slots Q (F0 m (pc + 3) ls (.long (gj (M a k)) :: rest))) : W p l e R s m args below meth c H locs cells slots Q (F0 m pc ls (.ref (w.1 + a) :: rest)) := by
  obtain ⟨C, T, N, f1, f2, f3, f4, f5, f6, f7⟩ := f
  have he := gws_at (w := w) (Rm := Rm) (M := M) ha.1 ha.2.1
  rw [gen_obj ha.2.2 f3] at he
  exact va_get hC.1 hC.2.1 hC.2.2.2.2 f6 hC.2.2.2.1 hK.1 hH.1 (a - 1) he f1 k f4 (hC.2.2.2.2 _ f5) (fun _ z => z) (v := .long (gj (M a k))) (by rw [gfs_at f7]; rfl) d kk
theorem r_getR (hC : CallFix p m c cc nL s args gG own) (hK : gKF w s) (hH : gH w n Rm M s H locs) {g : Nat → Nat} (hL : gLC g n Rm) {a t k idx o q : Nat} (f : gFL own idx t k 2) (ha : g a = t) (hc : gch t k = some (o, q)) (d : decode cc pc = .ok (.getfield idx, 3))
    (kk : W p l e R s m args below meth c H locs cells slots Q (F0 m (pc + 3) ls (.ref (w.1 + (a + o)) :: rest))) : W p l e R s m args below meth c H locs cells slots Q (F0 m pc ls (.ref (w.1 + a) :: rest)) := by
  obtain ⟨C, T, N, f1, f2, f3, f4, f5, f6, f7⟩ := f
  have ht : t ≠ 0 := by omega
  have hi := hL.in ha ht
  have he := gws_at (w := w) (Rm := Rm) (M := M) hi.1 hi.2.1
  rw [gen_obj hi.2.2 f3] at he
  refine va_get hC.1 hC.2.1 hC.2.2.2.2 f6 hC.2.2.2.1 hK.1 hH.1 (a - 1) he f1 k f4 (hC.2.2.2.2 _ f5) (fun _ z => z) (v := .ref (w.1 + (a + o))) ?_ d kk
  rw [gfs_at f7]
  show some (gvR w (Rm a k)) = _
  rw [hL.rm ha ht hc]
  unfold gvR
  rw [if_neg (by have := hi.1; omega)]
theorem r_putI (hC : CallFix p m c cc nL s args gG own) (hK : gKF w s) (hH : gH w n Rm M s H locs) {a t k idx : Nat} {v : Int} (f : gFP own idx t k 0) (ha : gIn n a t) (hv : gRI v) (d : decode cc pc = .ok (.putfield idx, 3))
    (kk : ∀ H1 locs1, gH w n Rm (gup M a k v) s H1 locs1 → W p l e R s m args below meth c H1 locs1 cells slots Q (F0 m (pc + 3) ls rest)) : W p l e R s m args below meth c H locs cells slots Q (F0 m pc ls (.int (gi v) :: .ref (w.1 + a) :: rest)) := by
  obtain ⟨C, T, N, ty0, f1, f2, f3, f4, f5, f6, f7, f8, f9, f10, f11, f12⟩ := f
  have he := gws_at (w := w) (Rm := Rm) (M := M) ha.1 ha.2.1
  rw [gen_obj ha.2.2 f3] at he
  have hk := (List.getElem?_eq_some_iff.mp f7).1
  refine va_put hC.1 hC.2.1 hC.2.2.2.2 f6 ty0 f8 f9 hC.2.2.2.1 hK.1 hH.1 (gD w n Rm M) hH.2.1 (a - 1) he f1 k f4 (hC.2.2.2.2 _ f5) (fun _ z => z) f10 f11 (by rfl) (by rfl) (by unfold gfs; simpa using hk) d (fun H1 locs1 hP _ hS => ?_)
  refine kk H1 locs1 ⟨?_, hS, hH.2.2.up (by rw [ha.2.2, glg_f f3 f7]; exact hv)⟩
  rw [gfs_set (v := v) f7 (by unfold gfv gup; simp), ← gen_obj ha.2.2 f3] at hP
  rwa [gws_set ha.1 rfl (fun b hb => gen_cong (gup_ne hb))] at hP
theorem r_putL (hC : CallFix p m c cc nL s args gG own) (hK : gKF w s) (hH : gH w n Rm M s H locs) {a t k idx : Nat} {v : Int} (f : gFP own idx t k 1) (ha : gIn n a t) (hv : gRL v) (d : decode cc pc = .ok (.putfield idx, 3))
    (kk : ∀ H1 locs1, gH w n Rm (gup M a k v) s H1 locs1 → W p l e R s m args below meth c H1 locs1 cells slots Q (F0 m (pc + 3) ls rest)) : W p l e R s m args below meth c H locs cells slots Q (F0 m pc ls (.long (gj v) :: .ref (w.1 + a) :: rest)) := by
  obtain ⟨C, T, N, ty0, f1, f2, f3, f4, f5, f6, f7, f8, f9, f10, f11, f12⟩ := f
  have he := gws_at (w := w) (Rm := Rm) (M := M) ha.1 ha.2.1
  rw [gen_obj ha.2.2 f3] at he
  have hk := (List.getElem?_eq_some_iff.mp f7).1
  refine va_put hC.1 hC.2.1 hC.2.2.2.2 f6 ty0 f8 f9 hC.2.2.2.1 hK.1 hH.1 (gD w n Rm M) hH.2.1 (a - 1) he f1 k f4 (hC.2.2.2.2 _ f5) (fun _ z => z) f10 f11 (by rfl) (by rfl) (by unfold gfs; simpa using hk) d (fun H1 locs1 hP _ hS => ?_)
  refine kk H1 locs1 ⟨?_, hS, hH.2.2.up (by rw [ha.2.2, glg_f f3 f7]; exact hv)⟩
  rw [gfs_set (v := v) f7 (by unfold gfv gup; simp), ← gen_obj ha.2.2 f3] at hP
  rwa [gws_set ha.1 rfl (fun b hb => gen_cong (gup_ne hb))] at hP
/-- an array of ints, bytes, booleans -/
def gAr (t kd : Nat) : Prop := 16 ≤ t ∧ t % 16 = kd
theorem glg_a {t kd k : Nat} (h : gAr t kd) : glg t k = (kd == 3) := by
  unfold glg
  rw [if_neg (by have := h.1; omega), h.2]
theorem gar_i {kd a : Nat} (h : kd < 3) : gar w Rm M kd a = .inl (fun j => gi (M a j)) := by
  unfold gar
  rw [if_neg (by omega), if_pos h]
theorem gar_l {a : Nat} : gar w Rm M 3 a = .inr (.inl (fun j => gj (M a j))) := rfl
theorem gar_up {kd a i : Nat} {v : Int} (h : kd < 3) : (Sum.inl (upd (fun j => gi (M a j)) i (gi v)) : (Nat → Int32) ⊕ (Nat → Int64) ⊕ (Nat → UInt32) ⊕ (Nat → UInt64) ⊕ (Nat → Option Nat)) = gar w Rm (gup M a i v) kd a := by
  rw [gar_i h]
  congr 1
  funext j
  unfold upd gup
  by_cases hj : j = i
  · rw [if_pos hj, if_pos ⟨rfl, hj⟩]
  · rw [if_neg hj, if_neg (fun z => hj z.2)]
theorem r_ald_he {a t kd : Nat} (ha : gIn n a t) (hA : gAr t kd) (h3 : kd < 3) : (gws w n Rm M)[a - 1]? = some (w.1 + a, .inl (w.2.2.2.1 kd, t / 16 - 1, .inl (fun j => gi (M a j)))) := by
  have he := gws_at (w := w) (Rm := Rm) (M := M) ha.1 ha.2.1
  rw [gen_arr ha.2.2 hA.1, hA.2, gar_i h3] at he
  exact he
theorem r_iald (hC : CallFix p m c cc nL s args gG own) (hK : gKF w s) (hH : gH w n Rm M s H locs) {a t : Nat} {i : Int} (ha : gIn n a t) (hA : gAr t 0) (hr : gRI i) (hi : 0 ≤ i ∧ i < ((t / 16 - 1 : Nat) : Int)) (d : decode cc pc = .ok (.iaload, 1))
    (kk : W p l e R s m args below meth c H locs cells slots Q (F0 m (pc + 1) ls (.int (gi (M a i.toNat)) :: rest))) : W p l e R s m args below meth c H locs cells slots Q (F0 m pc ls (.int (gi i) :: .ref (w.1 + a) :: rest)) := by
  refine va_iald hC.1 hC.2.1 hK.1 hH.1 (a - 1) 0 (r_ald_he ha hA (by omega)) rfl (gin hr hi) d ?_
  rw [gclamp hr]
  exact kk
theorem r_bald (hC : CallFix p m c cc nL s args gG own) (hK : gKF w s) (hH : gH w n Rm M s H locs) {a t : Nat} {i : Int} (ha : gIn n a t) (hA : gAr t 1) (hr : gRI i) (hi : 0 ≤ i ∧ i < ((t / 16 - 1 : Nat) : Int)) (d : decode cc pc = .ok (.baload, 1))
    (kk : W p l e R s m args below meth c H locs cells slots Q (F0 m (pc + 1) ls (.int (gi (M a i.toNat)) :: rest))) : W p l e R s m args below meth c H locs cells slots Q (F0 m pc ls (.int (gi i) :: .ref (w.1 + a) :: rest)) := by
  refine va_bald hC.1 hC.2.1 hK.1 hH.1 (a - 1) 1 (r_ald_he ha hA (by omega)) rfl (gin hr hi) d ?_
  rw [gclamp hr]
  exact kk
theorem r_zald (hC : CallFix p m c cc nL s args gG own) (hK : gKF w s) (hH : gH w n Rm M s H locs) {a t : Nat} {i : Int} (ha : gIn n a t) (hA : gAr t 2) (hr : gRI i) (hi : 0 ≤ i ∧ i < ((t / 16 - 1 : Nat) : Int)) (d : decode cc pc = .ok (.baload, 1))
    (kk : W p l e R s m args below meth c H locs cells slots Q (F0 m (pc + 1) ls (.int (gi (M a i.toNat)) :: rest))) : W p l e R s m args below meth c H locs cells slots Q (F0 m pc ls (.int (gi i) :: .ref (w.1 + a) :: rest)) := by
  refine va_zald hC.1 hC.2.1 hK.1 hH.1 (a - 1) 2 (r_ald_he ha hA (by omega)) rfl (gin hr hi) d ?_
  rw [gclamp hr]
  exact kk
theorem r_lald (hC : CallFix p m c cc nL s args gG own) (hK : gKF w s) (hH : gH w n Rm M s H locs) {a t : Nat} {i : Int} (ha : gIn n a t) (hA : gAr t 3) (hr : gRI i) (hi : 0 ≤ i ∧ i < ((t / 16 - 1 : Nat) : Int)) (d : decode cc pc = .ok (.laload, 1))
    (kk : W p l e R s m args below meth c H locs cells slots Q (F0 m (pc + 1) ls (.long (gj (M a i.toNat)) :: rest))) : W p l e R s m args below meth c H locs cells slots Q (F0 m pc ls (.int (gi i) :: .ref (w.1 + a) :: rest)) := by
  have he := gws_at (w := w) (Rm := Rm) (M := M) ha.1 ha.2.1
  rw [gen_arr ha.2.2 hA.1, hA.2, gar_l] at he
  refine va_lald hC.1 hC.2.1 hK.1 hH.1 (a - 1) 3 he rfl (gin hr hi) d ?_
  rw [gclamp hr]
  exact kk
theorem r_aald (hC : CallFix p m c cc nL s args gG own) (hK : gKF w s) (hH : gH w n Rm M s H locs) {g : Nat → Nat} (hL : gLC g n Rm) {a t o q : Nat} {i : Int} (kd : Nat) {C : String} (hkd : (gty w)[kd]? = some (w.2.2.2.1 kd, .object C)) (h3 : 3 < kd) (ha : g a = t) (hA : gAr t kd) (hr : gRI i) (hi : 0 ≤ i ∧ i < ((t / 16 - 1 : Nat) : Int)) (hc : gch t i.toNat = some (o, q)) (d : decode cc pc = .ok (.aaload, 1))
    (kk : W p l e R s m args below meth c H locs cells slots Q (F0 m (pc + 1) ls (.ref (w.1 + (a + o)) :: rest))) : W p l e R s m args below meth c H locs cells slots Q (F0 m pc ls (.int (gi i) :: .ref (w.1 + a) :: rest)) := by
  have ht : t ≠ 0 := by have := hA.1; omega
  have hin := hL.in ha ht
  have he := gws_at (w := w) (Rm := Rm) (M := M) hin.1 hin.2.1
  rw [gen_arr hin.2.2 hA.1, hA.2] at he
  unfold gar at he
  rw [if_neg (by omega), if_neg (by omega)] at he
  refine va_aldq hC.1 hC.2.1 hK.1 hH.1 (a - 1) kd he hkd (gin hr hi) d ?_
  rw [gclamp hr]
  show W p l e R s m args below meth c H locs cells slots Q (F0 m (pc + 1) ls (va_rf (grO w (Rm a i.toNat)) :: rest))
  rw [hL.rm ha ht hc]
  unfold grO
  rw [if_neg (by have := hin.1; omega)]
  exact kk
theorem r_iast (hC : CallFix p m c cc nL s args gG own) (hK : gKF w s) (hH : gH w n Rm M s H locs) {a t : Nat} {i v : Int} (ha : gIn n a t) (hA : gAr t 0) (hr : gRI i) (hi : 0 ≤ i ∧ i < ((t / 16 - 1 : Nat) : Int)) (hv : gRI v) (d : decode cc pc = .ok (.iastore, 1))
    (kk : ∀ H1 locs1, gH w n Rm (gup M a i.toNat v) s H1 locs1 → W p l e R s m args below meth c H1 locs1 cells slots Q (F0 m (pc + 1) ls rest)) : W p l e R s m args below meth c H locs cells slots Q (F0 m pc ls (.int (gi v) :: .int (gi i) :: .ref (w.1 + a) :: rest)) := by
  refine va_iast hC.1 hC.2.1 hK.1 hH.1 (gD w n Rm M) hH.2.1 (a - 1) 0 (r_ald_he ha hA (by omega)) rfl (gin hr hi) d (fun H1 locs1 hP _ hS => ?_)
  refine kk H1 locs1 ⟨?_, hS, hH.2.2.upI ha.2.2 (glg_a hA) hv⟩
  rw [gclamp hr, gar_up (w := w) (Rm := Rm) (kd := 0) (by omega)] at hP
  have h0 := gen_arr (w := w) (Rm := Rm) (M := gup M a i.toNat v) ha.2.2 hA.1
  rw [hA.2] at h0
  rw [← h0] at hP
  rwa [gws_set ha.1 rfl (fun b hb => gen_cong (gup_ne hb))] at hP
theorem r_bast (hC : CallFix p m c cc nL s args gG own) (hK : gKF w s) (hH : gH w n Rm M s H locs) {a t : Nat} {i v : Int} (ha : gIn n a t) (hA : gAr t 1) (hr : gRI i) (hi : 0 ≤ i ∧ i < ((t / 16 - 1 : Nat) : Int)) (d : decode cc pc = .ok (.bastore, 1))
    (kk : ∀ H1 locs1, gH w n Rm (gup M a i.toNat (gwb v)) s H1 locs1 → W p l e R s m args below meth c H1 locs1 cells slots Q (F0 m (pc + 1) ls rest)) : W p l e R s m args below meth c H locs cells slots Q (F0 m pc ls (.int (gi v) :: .int (gi i) :: .ref (w.1 + a) :: rest)) := by
  refine va_bast hC.1 hC.2.1 hK.1 hH.1 (gD w n Rm M) hH.2.1 (a - 1) 1 (r_ald_he ha hA (by omega)) rfl (gin hr hi) d (fun H1 locs1 hP _ hS => ?_)
  refine kk H1 locs1 ⟨?_, hS, hH.2.2.upI ha.2.2 (glg_a hA) (gwb_r v)⟩
  rw [vp_nar_byte, gi2b, gclamp hr, gar_up (w := w) (Rm := Rm) (kd := 1) (by omega)] at hP
  have h0 := gen_arr (w := w) (Rm := Rm) (M := gup M a i.toNat (gwb v)) ha.2.2 hA.1
  rw [hA.2] at h0
  rw [← h0] at hP
  rwa [gws_set ha.1 rfl (fun b hb => gen_cong (gup_ne hb))] at hP
/-- a boolean that is 0 or 1 into an array of booleans -/
theorem r_zast (hC : CallFix p m c cc nL s args gG own) (hK : gKF w s) (hH : gH w n Rm M s H locs) {a t : Nat} {i v : Int} (ha : gIn n a t) (hA : gAr t 2) (hr : gRI i) (hi : 0 ≤ i ∧ i < ((t / 16 - 1 : Nat) : Int)) (hv : v = 0 ∨ v = 1) (d : decode cc pc = .ok (.bastore, 1))
    (kk : ∀ H1 locs1, gH w n Rm (gup M a i.toNat v) s H1 locs1 → W p l e R s m args below meth c H1 locs1 cells slots Q (F0 m (pc + 1) ls rest)) : W p l e R s m args below meth c H locs cells slots Q (F0 m pc ls (.int (gi v) :: .int (gi i) :: .ref (w.1 + a) :: rest)) := by
  refine va_zast hC.1 hC.2.1 hK.1 hH.1 (gD w n Rm M) hH.2.1 (a - 1) 2 (r_ald_he ha hA (by omega)) rfl (gin hr hi) d (fun H1 locs1 hP _ hS => ?_)
  refine kk H1 locs1 ⟨?_, hS, hH.2.2.upI ha.2.2 (glg_a hA) (by rcases hv with rfl | rfl <;> exact ⟨by omega, by omega⟩)⟩
  have hn : vp_nar .boolean (gi v) = gi v := by rcases hv with rfl | rfl <;> decide
  rw [hn, gclamp hr, gar_up (w := w) (Rm := Rm) (kd := 2) (by omega)] at hP
  have h0 := gen_arr (w := w) (Rm := Rm) (M := gup M a i.toNat v) ha.2.2 hA.1
  rw [hA.2] at h0
  rw [← h0] at hP
  rwa [gws_set ha.1 rfl (fun b hb => gen_cong (gup_ne hb))] at hP
theorem r_last (hC : CallFix p m c cc nL s args gG own) (hK : gKF w s) (hH : gH w n Rm M s H locs) {a t : Nat} {i v : Int} (ha : gIn n a t) (hA : gAr t 3) (hr : gRI i) (hi : 0 ≤ i ∧ i < ((t / 16 - 1 : Nat) : Int)) (hv : gRL v) (d : decode cc pc = .ok (.lastore, 1))
    (kk : ∀ H1 locs1, gH w n Rm (gup M a i.toNat v) s H1 locs1 → W p l e R s m args below meth c H1 locs1 cells slots Q (F0 m (pc + 1) ls rest)) : W p l e R s m args below meth c H locs cells slots Q (F0 m pc ls (.long (gj v) :: .int (gi i) :: .ref (w.1 + a) :: rest)) := by
  have he := gws_at (w := w) (Rm := Rm) (M := M) ha.1 ha.2.1
  rw [gen_arr ha.2.2 hA.1, hA.2, gar_l] at he
  refine va_last hC.1 hC.2.1 hK.1 hH.1 (gD w n Rm M) hH.2.1 (a - 1) 3 he rfl (gin hr hi) d (fun H1 locs1 hP _ hS => ?_)
  refine kk H1 locs1 ⟨?_, hS, hH.2.2.upL ha.2.2 (glg_a hA) hv⟩
  have hu : (Sum.inr (Sum.inl (vp_updL (fun j => gj (M a j)) i.toNat (gj v))) : (Nat → Int32) ⊕ (Nat → Int64) ⊕ (Nat → UInt32) ⊕ (Nat → UInt64) ⊕ (Nat → Option Nat)) = gar w Rm (gup M a i.toNat v) 3 a := by
    rw [gar_l]
    congr 2
    funext j
    unfold vp_updL gup
    by_cases hj : j = i.toNat
    · rw [if_pos hj, if_pos ⟨rfl, hj⟩]
    · rw [if_neg hj, if_neg (fun z => hj z.2)]
  rw [gclamp hr, hu] at hP
  have h0 := gen_arr (w := w) (Rm := Rm) (M := gup M a i.toNat v) ha.2.2 hA.1
  rw [hA.2] at h0
  rw [← h0] at hP
  rwa [gws_set ha.1 rfl (fun b hb => gen_cong (gup_ne hb))] at hP
theorem r_alen (hC : CallFix p m c cc nL s args gG own) (hK : gKF w s) (hH : gH w n Rm M s H locs) {a t : Nat} (kd : Nat) {ty : FieldType} (hkd : (gty w)[kd]? = some (w.2.2.2.1 kd, ty)) (ha : gIn n a t) (hA : gAr t kd) {N : Nat} (hN : t / 16 - 1 = N) (d : decode cc pc = .ok (.arraylength, 1))
    (kk : W p l e R s m args below meth c H locs cells slots Q (F0 m (pc + 1) ls (.int (gi (N : Int)) :: rest))) : W p l e R s m args below meth c H locs cells slots Q (F0 m pc ls (.ref (w.1 + a) :: rest)) := by
  have he := gws_at (w := w) (Rm := Rm) (M := M) ha.1 ha.2.1
  rw [gen_arr ha.2.2 hA.1, hA.2] at he
  exact va_alen hC.1 hC.2.1 hK.1 hH.1 (a - 1) kd he hkd (by rw [hN]; rfl) d kk
end Rows
