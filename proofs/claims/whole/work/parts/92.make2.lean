/-! The constructors of Reader and History (printed by wip/gen/mk_make2.py) -/
theorem gBy.up {n : Nat} {Rm : Nat → Nat → Nat} {M : gMem} {a k : Nat} {v : Int} (h : gBy n Rm M) (ha : a ≤ n) : gBy n Rm (gup M a k v) := fun x hx j => by
  rw [gup_ne (by omega)]
  exact h x hx j
section Make3
variable {p : Program} {l : Launch} {e : Env} {R : Room} {s : State} {m : MethodId} {args : Array Value} {below : List Frame} {meth : Method} {c : Code} {H : Heap} {locs : List Loc} {cells slots : Nat} {Q : State → Prop}
variable {cc : ByteArray} {nL : Nat} {own : String} {w : gW} {n n0 : Nat} {Rm : Nat → Nat → Nat} {M : gMem} {pc : Nat} {ls : Array Slot} {rest : List Value} {mc ms : Nat} {P : Nat → Nat → Prop}
theorem j_putI (hC : gIC w p l s m args meth c cc nL own n0) (hH : gIH w n Rm M s H locs) (hn : n = n0 + cells) {a t k idx : Nat} {v : Int} (f : gFP own idx t k 0) (ha : gIn n a t) (hv : gRI v) (d : decode cc pc = .ok (.putfield idx, 3))
    (kk : ∀ H1 locs1, gIH w n Rm (gup M a k v) s H1 locs1 → W p l e R s m args below meth c H1 locs1 cells slots Q (F0 m (pc + 3) ls rest)) : W p l e R s m args below meth c H locs cells slots Q (F0 m pc ls (.int (gi v) :: .ref (w.1 + a) :: rest)) :=
  r_putI hC.b.fx hC.b.kf hH.1 f ha hv d (fun H1 locs1 h => i_size hC h.1 hn (by have := ha.1; have := ha.2.1; omega) (fun hz => kk H1 locs1 ⟨h, hz, hH.2.2.up ha.2.1⟩))
theorem j_iast (hC : gIC w p l s m args meth c cc nL own n0) (hH : gIH w n Rm M s H locs) (hn : n = n0 + cells) {a t : Nat} {v : Int} {i : Int} (ha : gIn n a t) (hA : gAr t 0) (hi : gRI i) (h0 : 0 ≤ i ∧ i < ((t / 16 - 1 : Nat) : Int)) (hv : gRI v) (d : decode cc pc = .ok (.iastore, 1))
    (kk : ∀ H1 locs1, gIH w n Rm (gup M a i.toNat v) s H1 locs1 → W p l e R s m args below meth c H1 locs1 cells slots Q (F0 m (pc + 1) ls rest)) : W p l e R s m args below meth c H locs cells slots Q (F0 m pc ls (.int (gi v) :: .int (gi i) :: .ref (w.1 + a) :: rest)) :=
  r_iast hC.b.fx hC.b.kf hH.1 ha hA hi h0 hv d (fun H1 locs1 h => i_size hC h.1 hn (by have := ha.1; have := ha.2.1; omega) (fun hz => kk H1 locs1 ⟨h, hz, hH.2.2.up ha.2.1⟩))
end Make3
set_option maxHeartbeats 4000000 in
set_option maxRecDepth 100000 in
theorem k_Reader {w : gW} {l : Launch} (hl9 : l.stackTraces = false) {n : Nat} {Rm : Nat → Nat → Nat} {M : gMem} (h1 : 1 ≤ n) (hg : gPat lReader n) (hz : ∀ x, n ≤ x → ∀ k, Rm x k = 0 ∧ M x k = 0) : gIT w l yX5_init cX5_init 1 3 110 66 1726 n Rm M (gset (fun x _ => n ≤ x ∧ x ≤ n + 66) Rm) (gup M n 4 (-1)) := by
  refine gIT.of hl9 (by decide +kernel) (by decide) rfl (fun x hx k => hz x (by omega) k) ?_
  intro p e s m below meth c hC hH ls hl
  have hC : gIC w p l s m [Value.ref (w.1 + n)].toArray meth c cX5_init 1 RX5 n := hC
  have hH : gIH w n (gset (fun x _ => x < 0) Rm) M s s.heap [] := by rw [gset_no (fun x _ h => absurd h (by omega))]; exact hH
  refine lv_aload_n hC.b.fx.1 hC.b.fx.2.1 dX5_init_0 rfl (lv_at hl 0 rfl) ?_
  refine i_obj hC ob_X5 hl.1 ⟨Nat.le_of_ble_eq_true rfl, Nat.le_of_ble_eq_true rfl⟩ (Nat.le_of_ble_eq_true rfl) dX5_init_1 ?_
  refine lv_aload_n hC.b.fx.1 hC.b.fx.2.1 dX5_init_4 rfl (lv_at hl 0 rfl) ?_
  refine lv_sipush (v := gi (600)) hC.b.fx.1 hC.b.fx.2.1 dX5_init_5 (by decide) ?_
  refine i_newa (ty := .byte) (kd := 1) (L := 600) hC hH ac_byte rfl rfl rfl (by decide) (hg 1 (by decide)) (by decide) (by decide) ⟨Nat.le_of_ble_eq_true rfl, Nat.le_of_ble_eq_true rfl⟩ dX5_init_8 (fun H hH => ?_)
  refine j_putR (b := n + 1) hC hH rfl fr_X5_9 ⟨h1, by omega, hg 0 (by decide)⟩ (gRm_of (a := n) (k := 0) (hg 0 (by decide) : gsh (n + 0) = 6)) (by omega) dX5_init_10 (fun H locs hH => ?_)
  refine lv_aload_n hC.b.fx.1 hC.b.fx.2.1 dX5_init_13 rfl (lv_at hl 0 rfl) ?_
  have hB := hH.2.2
  refine i_new hC hH nk_X5_15 (hg 2 (by decide)) ⟨Nat.le_of_ble_eq_true rfl, Nat.le_of_ble_eq_true rfl⟩ dX5_init_14 (fun H hH => ?_)
  refine lv_dup hC.b.fx.1 hC.b.fx.2.1 dX5_init_17 rfl ?_
  refine j_call (n := n + 2) hC hH (k_Desk hl9 (by omega) (hg.sub 2 (by decide +kernel)) (fun x hx k => hB x (by omega) k)) (fun x hx k => (hB x (by omega) k).2) ck_X5_17 rfl (by omega) hl.1 (Nat.le_of_ble_eq_true rfl) ⟨Nat.le_of_ble_eq_true rfl, Nat.le_of_ble_eq_true rfl⟩ ⟨Nat.le_of_ble_eq_true rfl, Nat.le_of_ble_eq_true rfl⟩ dX5_init_18 (fun H locs hH => ?_)
  refine j_putR (b := n + 2) hC hH rfl fr_X5_18 ⟨h1, by omega, hg 0 (by decide)⟩ (gRm_of (a := n) (k := 1) (hg 0 (by decide) : gsh (n + 0) = 6)) (by omega) dX5_init_21 (fun H locs hH => ?_)
  refine lv_aload_n hC.b.fx.1 hC.b.fx.2.1 dX5_init_24 rfl (lv_at hl 0 rfl) ?_
  refine lv_iconst (v := gi (-1)) hC.b.fx.1 hC.b.fx.2.1 dX5_init_25 rfl ?_
  refine j_putI hC hH rfl fp_X5_22 ⟨h1, by omega, hg 0 (by decide)⟩ (gcR (k := -1) (by decide)) dX5_init_26 (fun H locs hH => ?_)
  have hH := hH.ch (Q := fun x k => (x = n ∧ k < 2) ∨ (n + 2 ≤ x ∧ x ≤ n + 66)) (fun x k => by first | omega | (dsimp only; omega))
  refine i_ret hC hH (gset_fin (P := fun x k => (x = n ∧ k < 2) ∨ (n + 2 ≤ x ∧ x ≤ n + 66)) (fun x hx k => (hz x hx k).1) (fun x k h => ?_) (gfin_Q (P := fun x k => (x = n ∧ k < 2) ∨ (n + 2 ≤ x ∧ x ≤ n + 66)) (m := 66) hg rfl (fun j k hj hk => ?_))) rfl ⟨Nat.le_of_ble_eq_true rfl, Nat.le_of_ble_eq_true rfl⟩ rfl dX5_init_29
  · try dsimp only at h
    omega
  · have h2 := (by decide +kernel : ∀ j, j ≤ 66 → (gcl (lReader.getD j 0)).length ≤ if j = 0 then 2 else if j = 1 then 0 else 1000) j hj
    try dsimp only
    split at h2
    · omega
    · split at h2 <;> omega
set_option maxHeartbeats 4000000 in
set_option maxRecDepth 100000 in
theorem lp_hist {w : gW} {l : Launch} (hl9 : l.stackTraces = false) {n : Nat} {Rm : Nat → Nat → Nat} {M : gMem} (h1 : 1 ≤ n) (hg : gPat lHist n) {p : Program} {e : Env} {s : State} {m : MethodId} {below : List Frame} {meth : Method} {c : Code} {Q : State → Prop} (hC : gIC w p l s m [Value.ref (w.1 + n)].toArray meth c cX1_init 2 RX1 n)
    (kk : ∀ (H : Heap) (locs : List Loc) (ls : Array Slot), gIH w (n + 521) (gset (fun x k => (x = n ∧ k < 1) ∨ (x = n + 1 ∧ k < 8) ∨ (n + 2 ≤ x ∧ x < n + (2 + 65 * 8))) Rm) M s H locs → lv_has ls 2 [(0, .ref (w.1 + n))] → W p l e { frames := 3, cells := 521, slots := 9016, locals := 110 } s m [Value.ref (w.1 + n)].toArray below meth c H locs 521 9016 Q (F0 m 43 ls [])) :
    ∀ (k i : Nat) (hik : i + k = 8) (H : Heap) (locs : List Loc) (ls : Array Slot), gIH w (n + (1 + 65 * i)) (gset (fun x k => (x = n ∧ k < 1) ∨ (x = n + 1 ∧ k < i) ∨ (n + 2 ≤ x ∧ x < n + (2 + 65 * i))) Rm) M s H locs → lv_has ls 2 [(1, .int (gi (i : Int))), (0, .ref (w.1 + n))] →
      W p l e { frames := 3, cells := 521, slots := 9016, locals := 110 } s m [Value.ref (w.1 + n)].toArray below meth c H locs (1 + 65 * i) (8 + 1126 * i) Q (F0 m 15 ls []) := by
  intro k
  induction k with
  | zero =>
    intro i hik H locs ls hH hl
    obtain rfl : i = 8 := by omega
    refine lv_iload_n hC.b.fx.1 hC.b.fx.2.1 dX1_init_15 rfl (lv_at hl 0 rfl) ?_
    refine lv_aload_n hC.b.fx.1 hC.b.fx.2.1 dX1_init_16 rfl (lv_at hl 1 rfl) ?_
    refine i_getR (b := n + 1) hC.b hH fl_X1_11 ⟨h1, by omega, hg 0 (by decide)⟩ (by rw [gset_at (by first | omega | (dsimp only; omega))]; exact gRm_of (a := n) (k := 0) (hg 0 (by decide) : gsh (n + 0) = 2)) (by omega) dX1_init_17 ?_
    refine r_alen (t := 150) (N := 8) hC.b.fx hC.b.kf hH.1 6 rfl ⟨by omega, by omega, hg 1 (by decide)⟩ (⟨by decide, by decide⟩ : gAr 150 6) rfl dX1_init_20 ?_
    refine r_icmp_ge (tgt := 43) hC.b.fx (gcR (by omega)) (gcR (by omega)) dX1_init_21 (by decide) (fun _ => ?_) (fun h => absurd h (by omega))
    exact kk H locs ls hH (lv_sub hl [1] rfl)
  | succ k ih =>
    intro i hik H locs ls hH hl
    refine lv_iload_n hC.b.fx.1 hC.b.fx.2.1 dX1_init_15 rfl (lv_at hl 0 rfl) ?_
    refine lv_aload_n hC.b.fx.1 hC.b.fx.2.1 dX1_init_16 rfl (lv_at hl 1 rfl) ?_
    refine i_getR (b := n + 1) hC.b hH fl_X1_11 ⟨h1, by omega, hg 0 (by decide)⟩ (by rw [gset_at (by first | omega | (dsimp only; omega))]; exact gRm_of (a := n) (k := 0) (hg 0 (by decide) : gsh (n + 0) = 2)) (by omega) dX1_init_17 ?_
    refine r_alen (t := 150) (N := 8) hC.b.fx hC.b.kf hH.1 6 rfl ⟨by omega, by omega, hg 1 (by decide)⟩ (⟨by decide, by decide⟩ : gAr 150 6) rfl dX1_init_20 ?_
    refine r_icmp_ge (tgt := 43) hC.b.fx (gcR (by omega)) (gcR (by omega)) dX1_init_21 (by decide) (fun h => absurd h (by omega)) (fun _ => ?_)
    have hp : gPat lDesk (n + (2 + 65 * i)) := hg.sub _ (fun j hj => by
      have hh := (by decide +kernel : ∀ i, i < 8 → ∀ j, j < lDesk.length → (2 + 65 * i) + j < lHist.length ∧ lHist.getD ((2 + 65 * i) + j) 0 = lDesk.getD j 0) i (by omega) j hj
      exact hh)
    refine lv_aload_n hC.b.fx.1 hC.b.fx.2.1 dX1_init_24 rfl (lv_at hl 1 rfl) ?_
    refine i_getR (b := n + 1) hC.b hH fl_X1_11 ⟨h1, by omega, hg 0 (by decide)⟩ (by rw [gset_at (by first | omega | (dsimp only; omega))]; exact gRm_of (a := n) (k := 0) (hg 0 (by decide) : gsh (n + 0) = 2)) (by omega) dX1_init_25 ?_
    refine lv_iload_n hC.b.fx.1 hC.b.fx.2.1 dX1_init_28 rfl (lv_at hl 0 rfl) ?_
    have hB := hH.2.2
    refine i_new hC hH nk_X1_9 (by have h0 := hp 0 (by decide); rw [show n + (1 + 65 * i) + 1 = n + (2 + 65 * i) + 0 by omega]; exact h0) ⟨by show 1 + 65 * i + 1 ≤ 521; omega, by show 8 + 1126 * i + 9 ≤ 9016; omega⟩ dX1_init_29 (fun H hH => ?_)
    refine lv_dup hC.b.fx.1 hC.b.fx.2.1 dX1_init_32 rfl ?_
    rw [show n + (1 + 65 * i) + 1 = n + (2 + 65 * i) by omega] at hH ⊢
    refine j_call hC hH (k_Desk hl9 (by omega) hp (fun x hx k => hB x (by omega) k)) (fun x hx k => (hB x (by omega) k).2) ck_X1_17 (by omega) (by omega) hl.1 (Nat.le_of_ble_eq_true rfl) ⟨Nat.le_of_ble_eq_true rfl, Nat.le_of_ble_eq_true rfl⟩ ⟨by show 1 + 65 * i + 1 + 64 ≤ 521; omega, by show 8 + 1126 * i + 9 + 1117 ≤ 9016; omega⟩ dX1_init_33 (fun H locs hH => ?_)
    refine j_aast (i := i) (kd := 6) (t := 150) (t' := 1) (a := n + 1) (b := n + (2 + 65 * i)) hC hH (by omega) rfl rfl (by decide) (by decide) ⟨by omega, by omega, hg 1 (by decide)⟩ ⟨by omega, by omega, hp 0 (by decide)⟩ (by decide) (by show i < 8; omega) (by omega) ?_ dX1_init_36 (fun H locs hH => ?_)
    · rw [gRm_of (t := 150) (hg 1 (by decide) : gsh (n + 1) = 150), gch_150 (k := i) (by omega)]
      show n + 1 + _ = _
      omega
    refine r_iinc (k := 0) (lv' := [(1, .int (gi (gwi ((i : Int) + 1)))), (0, .ref (w.1 + n))]) hC.b.fx dX1_init_37 hl rfl (by decide) rfl (fun ls hl => ?_)
    refine lv_goto (tgt := 15) hC.b.fx.1 hC.b.fx.2.1 dX1_init_40 (by decide) ?_
    rw [gwi_id (gcR (by omega))] at hl
    have hH := hH.ch (Q := fun x k => (x = n ∧ k < 1) ∨ (x = n + 1 ∧ k < (i + 1)) ∨ (n + 2 ≤ x ∧ x < n + (2 + 65 * (i + 1)))) (fun x k => by first | omega | (dsimp only; omega))
    have e1 : n + (2 + 65 * i) + 64 = n + (1 + 65 * (i + 1)) := by omega
    rw [e1] at hH
    have e2 : 1 + 65 * i + 1 + 64 = 1 + 65 * (i + 1) := by omega
    have e3 : 8 + 1126 * i + 9 + 1117 = 8 + 1126 * (i + 1) := by omega
    show W p l e _ s m _ below meth c H locs (1 + 65 * i + 1 + 64) (8 + 1126 * i + 9 + 1117) Q (F0 m 15 ls [])
    rw [e2, e3]
    exact ih (i + 1) (by omega) H locs ls hH hl
set_option maxHeartbeats 4000000 in
set_option maxRecDepth 100000 in
theorem k_Hist {w : gW} {l : Launch} (hl9 : l.stackTraces = false) {n : Nat} {Rm : Nat → Nat → Nat} {M : gMem} (h1 : 1 ≤ n) (hg : gPat lHist n) (hz : ∀ x, n ≤ x → ∀ k, Rm x k = 0 ∧ M x k = 0) : gIT w l yX1_init cX1_init 2 3 110 521 9016 n Rm M (gset (fun x _ => n ≤ x ∧ x ≤ n + 521) Rm) M := by
  refine gIT.of hl9 (by decide +kernel) (by decide) rfl (fun x hx k => hz x (by omega) k) ?_
  intro p e s m below meth c hC hH ls hl
  have hC : gIC w p l s m [Value.ref (w.1 + n)].toArray meth c cX1_init 2 RX1 n := hC
  have hH : gIH w n (gset (fun x _ => x < 0) Rm) M s s.heap [] := by rw [gset_no (fun x _ h => absurd h (by omega))]; exact hH
  have hl : lv_has ls 2 [(0, .ref (w.1 + n))] := hl
  refine lv_aload_n hC.b.fx.1 hC.b.fx.2.1 dX1_init_0 rfl (lv_at hl 0 rfl) ?_
  refine i_obj hC ob_X1 hl.1 ⟨Nat.le_of_ble_eq_true rfl, Nat.le_of_ble_eq_true rfl⟩ (Nat.le_of_ble_eq_true rfl) dX1_init_1 ?_
  refine lv_aload_n hC.b.fx.1 hC.b.fx.2.1 dX1_init_4 rfl (lv_at hl 0 rfl) ?_
  refine lv_bipush (v := gi (8)) hC.b.fx.1 hC.b.fx.2.1 dX1_init_5 (by decide) ?_
  refine i_anew (C := RX0) (kd := 6) (L := 8) hC hH cl_X1_9 hC.2.1.2.2 rfl (by decide) (hg 1 (by decide)) (by decide) ⟨Nat.le_of_ble_eq_true rfl, Nat.le_of_ble_eq_true rfl⟩ dX1_init_7 (fun H hH => ?_)
  refine j_putR (b := n + 1) hC hH rfl fr_X1_11 ⟨h1, by omega, hg 0 (by decide)⟩ (gRm_of (a := n) (k := 0) (hg 0 (by decide) : gsh (n + 0) = 2)) (by omega) dX1_init_10 (fun H locs hH => ?_)
  refine lv_iconst (v := gi (0)) hC.b.fx.1 hC.b.fx.2.1 dX1_init_13 rfl ?_
  refine lv_istore_n (lv' := [(1, .int (gi 0)), (0, .ref (w.1 + n))]) hC.b.fx.1 hC.b.fx.2.1 dX1_init_14 rfl hl (by decide) rfl (fun ls hl => ?_)
  have hH := hH.ch (Q := fun x k => (x = n ∧ k < 1) ∨ (x = n + 1 ∧ k < 0) ∨ (n + 2 ≤ x ∧ x < n + (2 + 65 * 0))) (fun x k => by first | omega | (dsimp only; omega))
  refine lp_hist hl9 h1 hg hC (fun H locs ls hH hl => ?_) 8 0 rfl H locs ls hH hl
  have hH := hH.ch (Q := fun x k => (x = n ∧ k < 1) ∨ (x = n + 1 ∧ k < 8) ∨ (n + 2 ≤ x ∧ x < n + (2 + 65 * 8))) (fun x k => by first | omega | (dsimp only; omega))
  refine i_ret hC hH (gset_fin (P := fun x k => (x = n ∧ k < 1) ∨ (x = n + 1 ∧ k < 8) ∨ (n + 2 ≤ x ∧ x < n + (2 + 65 * 8))) (fun x hx k => (hz x hx k).1) (fun x k h => ?_) (gfin_Q (P := fun x k => (x = n ∧ k < 1) ∨ (x = n + 1 ∧ k < 8) ∨ (n + 2 ≤ x ∧ x < n + (2 + 65 * 8))) (m := 521) hg rfl (fun j k hj hk => ?_))) rfl ⟨Nat.le_of_ble_eq_true rfl, Nat.le_of_ble_eq_true rfl⟩ rfl dX1_init_43
  · try dsimp only at h
    omega
  · have h2 := (by decide +kernel : ∀ j, j ≤ 521 → (gcl (lHist.getD j 0)).length ≤ if j = 0 then 1 else if j = 1 then 8 else 1000) j hj
    try dsimp only
    split at h2
    · omega
    · split at h2 <;> omega
