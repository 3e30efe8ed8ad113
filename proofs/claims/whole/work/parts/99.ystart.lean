/-! THE CLAIM OUT OF ONE WALK OF THE LAW'S BODY. Your part is whole_start (and what it stands on); all else here is the same for every law, but numbers. -/
def R_law : String := "StackDeskLaw"
def lw_P (b : Addr) (xs : List Int32) (args : Array Value) (s : State) : Prop := args = #[.ref b] ∧ s.IntsAt b xs ∧ xs.length ≤ 3072 ∧ (Jvm.Cond.and given_1 narrow_1).before args s = true
/-- what a walk over the start with the record d0 says of its end, said of the start itself -/
theorem lw_closed {s t : State} {o : Outcome} {d0 : Drawn} {L : List Loc} {k n : Nat} (hd0 : s.drawn.sameBut d0 lw_cs) (hv : ∃ v, o = .returned v) (hW : (s.setDrawn d0).WarmedH t.vm) (hs : (s.setDrawn d0).sameButNew ({ t with vm := s.vm } : State) L k n) : State.butDraws s t lw_cs (fun t1 => Framed s o t1 L k n) := by
  have h2 : t.drawn = d0 := congrArg State.drawn hs.1
  refine ⟨⟨hv, hW, State.sameButNew.setDrawn hs s.drawn⟩, ?_, by decide⟩
  rw [h2]
  exact hd0
def lw_Q (_ : Array Value) (s : State) (o : Outcome) (t : State) : Prop := o = .returned (some (.int 1)) ∧ State.butDraws s t lw_cs (fun t1 => Framed s o t1 [] 601024 7293034)
def lw_Z (below : List Frame) (a : Array Value) (s : State) : State → Prop := fun t => ∃ o, t.status = .running ∧ Ended t below o ∧ lw_Q a s o t
/-- the law's own end, with 1 on the stack, nothing written that was there before, its room as the claim has it; d0: the record of draws at this point (at the entry s.drawn: begin with 'refine W.base ?_' and 'have hd0 := Drawn.sameBut.refl s.drawn lw_cs') -/
theorem lw_ret {p : Program} {l : Launch} {e : Env} {s : State} {m : MethodId} {below : List Frame} {meth : Method} {c : Code} {b : Nat} {d0 : Drawn} (hd0 : s.drawn.sameBut d0 lw_cs) (hx : p.tables.exec = Jvm.exec) (hb : c.code = code) (hr : meth.sig.returnType = ret) (hlocks : meth.locks = false) {pc : Nat} {H : Heap} {ls : Array Slot} (hdg : decode code pc = .ok (.ireturn, 1)) : W p l e room_1 (s.setDrawn d0) m #[Value.ref b] below meth c H [] 601024 7293034 (lw_Z below #[Value.ref b] s) (F0 m pc ls [.int 1]) := by
  intro T hT X
  obtain ⟨fs, hret, hrun, hended, hW, hframe⟩ := X.leave (v := some (.int 1)) (hlocks := hlocks) (fun h => by rw [hr] at h; cases h)
  have hmeth' : T.vm.method? m = some meth := X.method'
  refine ⟨T.setFrames fs, ?_, .returned (some (.int 1)), hrun, hended, rfl, lw_closed hd0 ⟨_, rfl⟩ hW hframe⟩
  jvm_step X.here [X.here.top, hx, hb, hdg, hmeth', hr, ret, narrow_b1]
  (try refine ⟨rfl, ?_⟩); (try refine ⟨rfl, ?_⟩)
  first | (intro acts; rw [hret _ acts rfl rfl rfl]) | rw [hret _ _ rfl rfl rfl]
  exact Steps.refl _
/-- what holds at the law's entry: the machine, the code, the tables' words (any of lw_tbl by 'hts w (by decide +kernel)'), the script of L ints xs at the cell b, what the Statement gives of the start (any of its parts by flat_of_before) -/
def lw_At (p : Program) (s : State) (m : MethodId) (meth : Method) (c : Code) (b L : Nat) (xs : Nat → Int32) : Prop :=
  p.tables.exec = Jvm.exec ∧ c.code = code ∧ meth.sig.returnType = ret ∧ c.maxLocals = 9 ∧ s.vm.findClass R_law = some m.cls ∧ (∀ w ∈ lw_tbl, w.before #[Value.ref b] s = true) ∧ va_X b L xs s s.heap ∧ b < s.heap.size ∧ meth.locks = false ∧ (Jvm.Cond.and given_1 narrow_1).before #[Value.ref b] s = true
theorem nk_L_8 : gNK RL 8 8 := ⟨RX8, TX8, 7, tyX8, rfl, by decide, by decide, rfl, tyX8_ok, dv_X8, gG_in 114 (by decide +kernel) (by decide +kernel), gG_in 115 (by decide +kernel) (by decide +kernel), gm_92, gu_X8⟩
theorem nk_L_98 : gNK RL 98 9 := ⟨RX9, TX9, 20, tyX9, rfl, by decide, by decide, rfl, tyX9_ok, dv_X9, gG_in 1202 (by decide +kernel) (by decide +kernel), gG_in 1203 (by decide +kernel) (by decide +kernel), gm_100, gu_X9⟩
theorem ck_L_97 : (Cond.methodLink RL 97 yX8_init ∈ gG ∨ ∃ host, Cond.methodLinkNest RL 97 yX8_init host ∈ gNG) ∧ Cond.instanceMethod yX8_init ∈ gG ∧ Cond.initialized yX8_init.cls ∈ gG ∧ Cond.code yX8_init cX8_init 2 none ∈ gG ∧ yX8_init.name = "<init>" ∧ (yX8_init.cls ≠ "java/lang/invoke/MethodHandle" ∧ yX8_init.cls ≠ "java/lang/invoke/VarHandle" ∧ (parseMethodDescriptor yX8_init.desc).map (fun d => d.parameters.length) = some 0) := ⟨Or.inl (gG_in 116 (by decide +kernel) (by decide +kernel)), gG_in 117 (by decide +kernel) (by decide +kernel), gm_92, gG_in 118 (by decide +kernel) (by decide +kernel), rfl, by decide +kernel, by decide +kernel, by decide +kernel⟩
theorem ck_L_100 : (Cond.methodLink RL 100 yX9_init ∈ gG ∨ ∃ host, Cond.methodLinkNest RL 100 yX9_init host ∈ gNG) ∧ Cond.instanceMethod yX9_init ∈ gG ∧ Cond.initialized yX9_init.cls ∈ gG ∧ Cond.code yX9_init cX9_init 1 none ∈ gG ∧ yX9_init.name = "<init>" ∧ (yX9_init.cls ≠ "java/lang/invoke/MethodHandle" ∧ yX9_init.cls ≠ "java/lang/invoke/VarHandle" ∧ (parseMethodDescriptor yX9_init.desc).map (fun d => d.parameters.length) = some 0) := ⟨Or.inl (gG_in 1204 (by decide +kernel) (by decide +kernel)), gG_in 1205 (by decide +kernel) (by decide +kernel), gm_100, gG_in 1206 (by decide +kernel) (by decide +kernel), rfl, by decide +kernel, by decide +kernel, by decide +kernel⟩
theorem gset_all {P : Nat → Nat → Prop} {Rm : Nat → Nat → Nat} (h : ∀ x k, P x k ∨ Rm x k = gRm x k) : gset P Rm = gRm := by
  funext x k
  unfold gset
  rcases h x k with h | h
  · rw [if_pos h]
  · split
    · rfl
    · exact h
theorem hFaceS : ∀ i, i < 2 → gPat lDesk (1 + (654 + 65 * i)) := by
  intro i hi j hj
  have h : ∀ i, i < 2 → ∀ j, j < 65 → gsh (1 + (654 + 65 * i) + j) = lDesk.getD j 0 := by decide +kernel
  exact h i hi j hj
theorem hFaceP (L : List Nat) (o : Nat) (h : ((List.range L.length).all fun j => decide (gsh (o + j) = L.getD j 0)) = true) : gPat L o := fun j hj => of_decide_eq_true (List.all_eq_true.mp h j (List.mem_range.mpr hj))
set_option maxHeartbeats 8000000 in
set_option maxRecDepth 100000 in
theorem whole_start {p : Program} {e : Env} {s : State} {m : MethodId} {below : List Frame} {meth : Method} {c : Code} (l : Launch) (hflags : l.flags = flags0) {b L : Nat} {xs : Nat → Int32} (hL : L ≤ 3072) (C0 : lw_At p s m meth c b L xs) : W p l e room_1 s m #[Value.ref b] below meth c s.heap [] 0 0 (lw_Z below #[Value.ref b] s) (entryFrame m ([Value.ref b] : List Value).toArray 9) := by
  obtain ⟨hx, hb, hr, hml, hown, hts, hX, hbl, hlocks, hgv⟩ := id C0
  have hl9 : l.stackTraces = false := by have h := congrArg (fun f => f) hflags; first | exact (by cases l; cases hflags; rfl) | simpa [Launch.flags, flags0] using hflags
  obtain ⟨w, hz, hK, hF, hN, hO⟩ := st_world hts hgv (by omega)
  have hM : gMD w p l s m [Value.ref b].toArray c cL_law 9 RL := ⟨⟨hx, hb, hml, hown, fun x hx => hts x (List.mem_filter.mp hx).1⟩, hK, hF, hN⟩
  obtain ⟨M1, M2, M4, M5, M6, e1, e2, z1, z2, e4, e5, e6, z4, z5, z6, hR⟩ := ini_all
  have hH : gIH w 0 (gset (fun x _ => x < 0) (fun _ _ => 0)) (fun _ _ => 0) s s.heap [] := by
    rw [gset_no (fun x _ h => absurd h (by omega))]
    exact ⟨⟨fun k q h => (by cases h), va_S.rf, fun a k => (by by_cases hq : glg (gsh a) k = true <;> simp only [hq] <;> exact ⟨by decide, by decide⟩)⟩, hz, fun a _ k => ⟨rfl, rfl⟩⟩
  have hl := lv_entry ([Value.ref b]) (n := 9) (Nat.le_of_ble_eq_true rfl)
  rw [lg_entry_eq]
  generalize (lg_sl ([Value.ref b]) ++ List.replicate (9 - (lg_sl ([Value.ref b])).length) Slot.unset).toArray = ls at hl ⊢
  have hl : lv_has ls 9 [(0, .ref b)] := hl
  refine d_new hM hH nk_L_8 (by decide +kernel) ⟨Nat.le_of_ble_eq_true rfl, Nat.le_of_ble_eq_true rfl⟩ dL_law_0 (fun H hH => ?_)
  refine lv_dup hx hb dL_law_3 rfl ?_
  refine d_call (n := 1) (n0 := 0) hM hO hz hH (k_Face hl9 (n := 1) (by decide) (by decide +kernel) (by decide +kernel) (by decide +kernel) (hFaceP _ _ (by decide +kernel)) (hFaceP _ _ (by decide +kernel)) (hFaceP _ _ (by decide +kernel)) hFaceS (hFaceP _ _ (by decide +kernel)) (hFaceP _ _ (by decide +kernel)) (fun x hx k => ⟨by unfold gset; rw [if_neg (by omega)], rfl⟩) e1 e2 z1 z2) (fun x hx k => ?_) ck_L_97 rfl (by decide) hl.1 (Nat.le_of_ble_eq_true rfl) ⟨Nat.le_of_ble_eq_true rfl, Nat.le_of_ble_eq_true rfl⟩ ⟨Nat.le_of_ble_eq_true rfl, Nat.le_of_ble_eq_true rfl⟩ dL_law_4 (fun H locs hH => ?_)
  · refine ⟨?_, by rw [gup_ne (by omega)]; exact z2 x (by omega) k⟩
    unfold gset
    rw [if_neg (by omega), if_neg (by omega)]
  rw [gset_or] at hH
  refine lv_astore_n (lv' := [(1, .ref (w.1 + 1)), (0, .ref b)]) hx hb dL_law_7 rfl hl (by decide) rfl (fun ls hl => ?_)
  have hB := hH.2.2
  refine d_new (n := 1 + 853) hM hH nk_L_98 (by decide +kernel) ⟨Nat.le_of_ble_eq_true rfl, Nat.le_of_ble_eq_true rfl⟩ dL_law_8 (fun H hH => ?_)
  refine lv_dup hx hb dL_law_11 rfl ?_
  refine d_call (n := 855) (n0 := 0) hM hO hz hH (k_Model hl9 (n := 855) (by decide) pat_Model (fun x hx k => hB x (by omega) k) e4 e5 e6 z4 z5 z6) (fun x hx k => ?_) ck_L_100 rfl (by decide) hl.1 (Nat.le_of_ble_eq_true rfl) ⟨Nat.le_of_ble_eq_true rfl, Nat.le_of_ble_eq_true rfl⟩ ⟨Nat.le_of_ble_eq_true rfl, Nat.le_of_ble_eq_true rfl⟩ dL_law_12 (fun H locs hH => ?_)
  · refine ⟨?_, z6 x (by omega) k⟩
    have h0 := (hB x (by omega) k).1
    unfold gset at h0 ⊢
    rw [if_neg (by omega)]
    exact h0
  rw [gset_or] at hH
  refine lv_astore_n (lv' := [(2, .ref (w.1 + 855)), (1, .ref (w.1 + 1)), (0, .ref b)]) hx hb dL_law_15 rfl hl (by decide) rfl (fun ls hl => ?_)
  refine lv_iconst (v := gi ((1 : Nat) : Int)) hx hb dL_law_16 (by decide) ?_
  refine d_newa (n := 855 + 8) (L := 1) (kd := 3) (ty := .long) hM hH (gG_in 1717 (by decide +kernel) (by decide +kernel)) rfl rfl rfl (by decide) (by decide +kernel) (by decide) (by decide) ⟨Nat.le_of_ble_eq_true rfl, Nat.le_of_ble_eq_true rfl⟩ dL_law_17 (fun H hH => ?_)
  refine lv_astore_n (lv' := [(3, .ref (w.1 + 864)), (2, .ref (w.1 + 855)), (1, .ref (w.1 + 1)), (0, .ref b)]) hx hb dL_law_19 rfl hl (by decide) rfl (fun ls hl => ?_)
  refine lv_iconst (v := gi ((6 * 0 : Nat) : Int)) hx hb dL_law_20 (by decide) ?_
  refine lv_istore (lv' := [(4, .int (gi ((6 * 0 : Nat) : Int))), (3, .ref (w.1 + 864)), (2, .ref (w.1 + 855)), (1, .ref (w.1 + 1)), (0, .ref b)]) hx hb dL_law_21 hl (by decide) rfl (fun ls hl => ?_)
  rw [gset_all (fun x k => ?_)] at hH
  · have hSc : gSc w s b L xs := ⟨hX, hbl, fun (h : w.1 < b) => by omega, hL⟩
    refine W.widen (k := 864 + 10 * 0) (n := 40000 + 100 * 0) (Nat.le_of_ble_eq_true rfl) (Nat.le_of_ble_eq_true rfl) ?_
    refine law_loop hM hl9 hSc (fun H locs ls h => ?_) 512 0 (by omega) (by omega) M6 0 H locs ls hR (by omega) hH.1 (lv_sub hl [4, 3, 2, 1, 0] rfl)
    have hS2 : va_S (gA w) s.heap H locs := by
      rcases h with h | ⟨M, h⟩
      · exact h.2.1
      · exact h.2.1
    refine lv_iconst (v := 1) hx hb dL_law_1978 (by decide) ?_
    refine va_forget (fun q hq => ?_) ?_
    · have h1 : w.1 < q.base := hS2.2.2 q hq
      omega
    · exact W.base (lw_ret (Drawn.sameBut.refl s.drawn lw_cs) hx hb hr hlocks dL_law_1979)
  · by_cases h1 : 1 ≤ x ∧ x ≤ 863
    · refine Or.inl ?_
      show (x < 0 ∨ (1 ≤ x ∧ x ≤ 1 + 853)) ∨ (855 ≤ x ∧ x ≤ 855 + 8)
      omega
    · refine Or.inr ?_
      have h2 : ∀ t, (gcl t).length = 0 → gch t k = none := fun t h => gch_big (by omega)
      have h3 : gch (gsh x) k = none := by
        rcases Nat.lt_or_ge 864 x with h | h
        · rw [gsh_out h]
          exact h2 0 (by decide +kernel)
        · rcases (show x = 0 ∨ x = 864 by omega) with rfl | rfl
          · exact h2 _ (by decide +kernel)
          · exact h2 _ (by decide +kernel)
      show (0 : Nat) = gRm x k
      unfold gRm
      rw [h3]
