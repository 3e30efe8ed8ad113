/-! The constructors (printed by wip/gen/mk_make.py) -/
set_option maxHeartbeats 4000000 in
set_option maxRecDepth 100000 in
theorem k_Log {w : gW} {l : Launch} (hl9 : l.stackTraces = false) {n : Nat} {Rm : Nat → Nat → Nat} {M : gMem} (h1 : 1 ≤ n) (hg : gPat lLog n) (hz : ∀ x, n ≤ x → ∀ k, Rm x k = 0 ∧ M x k = 0) : gIT w l yX2_init cX2_init 1 1 40 4 160 n Rm M (gset (fun x _ => n ≤ x ∧ x ≤ n + 4) Rm) M := by
  refine gIT.of hl9 (by decide +kernel) (by decide) rfl (fun x hx k => hz x (by omega) k) ?_
  intro p e s m below meth c hC hH ls hl
  have hC : gIC w p l s m [Value.ref (w.1 + n)].toArray meth c cX2_init 1 RX2 n := hC
  have hH : gIH w n (gset (fun x _ => x < 0) Rm) M s s.heap [] := by rw [gset_no (fun x _ h => absurd h (by omega))]; exact hH
  refine lv_aload_n hC.b.fx.1 hC.b.fx.2.1 dX2_init_0 rfl (lv_at hl 0 rfl) ?_
  refine i_obj hC ob_X2 hl.1 ⟨Nat.le_of_ble_eq_true rfl, Nat.le_of_ble_eq_true rfl⟩ (Nat.le_of_ble_eq_true rfl) dX2_init_1 ?_
  refine lv_aload_n hC.b.fx.1 hC.b.fx.2.1 dX2_init_4 rfl (lv_at hl 0 rfl) ?_
  refine lv_bipush (v := gi (40)) hC.b.fx.1 hC.b.fx.2.1 dX2_init_5 (by decide) ?_
  refine i_newa (ty := .int) (kd := 0) (L := 40) hC hH ac_int rfl rfl rfl (by decide) (hg 1 (by decide)) (by decide) (by decide) ⟨Nat.le_of_ble_eq_true rfl, Nat.le_of_ble_eq_true rfl⟩ dX2_init_7 (fun H hH => ?_)
  refine j_putR (b := n + 1) hC hH rfl fr_X2_9 ⟨h1, by omega, hg 0 (by decide)⟩ (gRm_of (a := n) (k := 0) (hg 0 (by decide) : gsh (n + 0) = 3)) (by omega) dX2_init_9 (fun H locs hH => ?_)
  refine lv_aload_n hC.b.fx.1 hC.b.fx.2.1 dX2_init_12 rfl (lv_at hl 0 rfl) ?_
  refine lv_bipush (v := gi (40)) hC.b.fx.1 hC.b.fx.2.1 dX2_init_13 (by decide) ?_
  refine i_newa (ty := .int) (kd := 0) (L := 40) hC hH ac_int rfl rfl rfl (by decide) (hg 2 (by decide)) (by decide) (by decide) ⟨Nat.le_of_ble_eq_true rfl, Nat.le_of_ble_eq_true rfl⟩ dX2_init_15 (fun H hH => ?_)
  refine j_putR (b := n + 2) hC hH rfl fr_X2_15 ⟨h1, by omega, hg 0 (by decide)⟩ (gRm_of (a := n) (k := 1) (hg 0 (by decide) : gsh (n + 0) = 3)) (by omega) dX2_init_17 (fun H locs hH => ?_)
  refine lv_aload_n hC.b.fx.1 hC.b.fx.2.1 dX2_init_20 rfl (lv_at hl 0 rfl) ?_
  refine lv_bipush (v := gi (40)) hC.b.fx.1 hC.b.fx.2.1 dX2_init_21 (by decide) ?_
  refine i_newa (ty := .int) (kd := 0) (L := 40) hC hH ac_int rfl rfl rfl (by decide) (hg 3 (by decide)) (by decide) (by decide) ⟨Nat.le_of_ble_eq_true rfl, Nat.le_of_ble_eq_true rfl⟩ dX2_init_23 (fun H hH => ?_)
  refine j_putR (b := n + 3) hC hH rfl fr_X2_18 ⟨h1, by omega, hg 0 (by decide)⟩ (gRm_of (a := n) (k := 2) (hg 0 (by decide) : gsh (n + 0) = 3)) (by omega) dX2_init_25 (fun H locs hH => ?_)
  refine lv_aload_n hC.b.fx.1 hC.b.fx.2.1 dX2_init_28 rfl (lv_at hl 0 rfl) ?_
  refine lv_bipush (v := gi (40)) hC.b.fx.1 hC.b.fx.2.1 dX2_init_29 (by decide) ?_
  refine i_newa (ty := .int) (kd := 0) (L := 40) hC hH ac_int rfl rfl rfl (by decide) (hg 4 (by decide)) (by decide) (by decide) ⟨Nat.le_of_ble_eq_true rfl, Nat.le_of_ble_eq_true rfl⟩ dX2_init_31 (fun H hH => ?_)
  refine j_putR (b := n + 4) hC hH rfl fr_X2_21 ⟨h1, by omega, hg 0 (by decide)⟩ (gRm_of (a := n) (k := 3) (hg 0 (by decide) : gsh (n + 0) = 3)) (by omega) dX2_init_33 (fun H locs hH => ?_)
  have hH := hH.ch (Q := fun x k => x = n ∧ k < 4) (fun x k => by first | omega | (dsimp only; omega))
  refine i_ret hC hH (gset_fin (P := fun x k => x = n ∧ k < 4) (fun x hx k => (hz x hx k).1) (fun x k h => ?_) (gfin_Q (P := fun x k => x = n ∧ k < 4) (m := 4) hg rfl (fun j k hj hk => ?_))) rfl ⟨Nat.le_of_ble_eq_true rfl, Nat.le_of_ble_eq_true rfl⟩ rfl dX2_init_36
  · try dsimp only at h
    omega
  · have h2 := (by decide : ∀ j, j ≤ 4 → (gcl (lLog.getD j 0)).length ≤ if j = 0 then 4 else 0) j hj
    try dsimp only
    split at h2 <;> omega
set_option maxHeartbeats 4000000 in
set_option maxRecDepth 100000 in
theorem k_Pile {w : gW} {l : Launch} (hl9 : l.stackTraces = false) {n : Nat} {Rm : Nat → Nat → Nat} {M : gMem} (h1 : 1 ≤ n) (hg : gPat lPile n) (hz : ∀ x, n ≤ x → ∀ k, Rm x k = 0 ∧ M x k = 0) : gIT w l yX3_init cX3_init 1 1 40 1 16 n Rm M (gset (fun x _ => n ≤ x ∧ x ≤ n + 1) Rm) M := by
  refine gIT.of hl9 (by decide +kernel) (by decide) rfl (fun x hx k => hz x (by omega) k) ?_
  intro p e s m below meth c hC hH ls hl
  have hC : gIC w p l s m [Value.ref (w.1 + n)].toArray meth c cX3_init 1 RX3 n := hC
  have hH : gIH w n (gset (fun x _ => x < 0) Rm) M s s.heap [] := by rw [gset_no (fun x _ h => absurd h (by omega))]; exact hH
  refine lv_aload_n hC.b.fx.1 hC.b.fx.2.1 dX3_init_0 rfl (lv_at hl 0 rfl) ?_
  refine i_obj hC ob_X3 hl.1 ⟨Nat.le_of_ble_eq_true rfl, Nat.le_of_ble_eq_true rfl⟩ (Nat.le_of_ble_eq_true rfl) dX3_init_1 ?_
  refine lv_aload_n hC.b.fx.1 hC.b.fx.2.1 dX3_init_4 rfl (lv_at hl 0 rfl) ?_
  refine lv_bipush (v := gi (16)) hC.b.fx.1 hC.b.fx.2.1 dX3_init_5 (by decide) ?_
  refine i_newa (ty := .int) (kd := 0) (L := 16) hC hH ac_int rfl rfl rfl (by decide) (hg 1 (by decide)) (by decide) (by decide) ⟨Nat.le_of_ble_eq_true rfl, Nat.le_of_ble_eq_true rfl⟩ dX3_init_7 (fun H hH => ?_)
  refine j_putR (b := n + 1) hC hH rfl fr_X3_9 ⟨h1, by omega, hg 0 (by decide)⟩ (gRm_of (a := n) (k := 0) (hg 0 (by decide) : gsh (n + 0) = 4)) (by omega) dX3_init_9 (fun H locs hH => ?_)
  have hH := hH.ch (Q := fun x k => x = n ∧ k < 1) (fun x k => by first | omega | (dsimp only; omega))
  refine i_ret hC hH (gset_fin (P := fun x k => x = n ∧ k < 1) (fun x hx k => (hz x hx k).1) (fun x k h => ?_) (gfin_Q (P := fun x k => x = n ∧ k < 1) (m := 1) hg rfl (fun j k hj hk => ?_))) rfl ⟨Nat.le_of_ble_eq_true rfl, Nat.le_of_ble_eq_true rfl⟩ rfl dX3_init_12
  · try dsimp only at h
    omega
  · have h2 := (by decide : ∀ j, j ≤ 1 → (gcl (lPile.getD j 0)).length ≤ if j = 0 then 1 else 0) j hj
    try dsimp only
    split at h2 <;> omega
set_option maxHeartbeats 4000000 in
set_option maxRecDepth 100000 in
theorem k_Proc {w : gW} {l : Launch} (hl9 : l.stackTraces = false) {n : Nat} {Rm : Nat → Nat → Nat} {M : gMem} (h1 : 1 ≤ n) (hg : gPat lProc n) (hz : ∀ x, n ≤ x → ∀ k, Rm x k = 0 ∧ M x k = 0) : gIT w l yX4_init cX4_init 1 1 40 3 68 n Rm M (gset (fun x _ => n ≤ x ∧ x ≤ n + 3) Rm) M := by
  refine gIT.of hl9 (by decide +kernel) (by decide) rfl (fun x hx k => hz x (by omega) k) ?_
  intro p e s m below meth c hC hH ls hl
  have hC : gIC w p l s m [Value.ref (w.1 + n)].toArray meth c cX4_init 1 RX4 n := hC
  have hH : gIH w n (gset (fun x _ => x < 0) Rm) M s s.heap [] := by rw [gset_no (fun x _ h => absurd h (by omega))]; exact hH
  refine lv_aload_n hC.b.fx.1 hC.b.fx.2.1 dX4_init_0 rfl (lv_at hl 0 rfl) ?_
  refine i_obj hC ob_X4 hl.1 ⟨Nat.le_of_ble_eq_true rfl, Nat.le_of_ble_eq_true rfl⟩ (Nat.le_of_ble_eq_true rfl) dX4_init_1 ?_
  refine lv_aload_n hC.b.fx.1 hC.b.fx.2.1 dX4_init_4 rfl (lv_at hl 0 rfl) ?_
  refine lv_bipush (v := gi (24)) hC.b.fx.1 hC.b.fx.2.1 dX4_init_5 (by decide) ?_
  refine i_newa (ty := .int) (kd := 0) (L := 24) hC hH ac_int rfl rfl rfl (by decide) (hg 1 (by decide)) (by decide) (by decide) ⟨Nat.le_of_ble_eq_true rfl, Nat.le_of_ble_eq_true rfl⟩ dX4_init_7 (fun H hH => ?_)
  refine j_putR (b := n + 1) hC hH rfl fr_X4_9 ⟨h1, by omega, hg 0 (by decide)⟩ (gRm_of (a := n) (k := 0) (hg 0 (by decide) : gsh (n + 0) = 5)) (by omega) dX4_init_9 (fun H locs hH => ?_)
  refine lv_aload_n hC.b.fx.1 hC.b.fx.2.1 dX4_init_12 rfl (lv_at hl 0 rfl) ?_
  refine lv_bipush (v := gi (24)) hC.b.fx.1 hC.b.fx.2.1 dX4_init_13 (by decide) ?_
  refine i_newa (ty := .int) (kd := 0) (L := 24) hC hH ac_int rfl rfl rfl (by decide) (hg 2 (by decide)) (by decide) (by decide) ⟨Nat.le_of_ble_eq_true rfl, Nat.le_of_ble_eq_true rfl⟩ dX4_init_15 (fun H hH => ?_)
  refine j_putR (b := n + 2) hC hH rfl fr_X4_15 ⟨h1, by omega, hg 0 (by decide)⟩ (gRm_of (a := n) (k := 1) (hg 0 (by decide) : gsh (n + 0) = 5)) (by omega) dX4_init_17 (fun H locs hH => ?_)
  refine lv_aload_n hC.b.fx.1 hC.b.fx.2.1 dX4_init_20 rfl (lv_at hl 0 rfl) ?_
  refine lv_bipush (v := gi (20)) hC.b.fx.1 hC.b.fx.2.1 dX4_init_21 (by decide) ?_
  refine i_newa (ty := .int) (kd := 0) (L := 20) hC hH ac_int rfl rfl rfl (by decide) (hg 3 (by decide)) (by decide) (by decide) ⟨Nat.le_of_ble_eq_true rfl, Nat.le_of_ble_eq_true rfl⟩ dX4_init_23 (fun H hH => ?_)
  refine j_putR (b := n + 3) hC hH rfl fr_X4_18 ⟨h1, by omega, hg 0 (by decide)⟩ (gRm_of (a := n) (k := 2) (hg 0 (by decide) : gsh (n + 0) = 5)) (by omega) dX4_init_25 (fun H locs hH => ?_)
  have hH := hH.ch (Q := fun x k => x = n ∧ k < 3) (fun x k => by first | omega | (dsimp only; omega))
  refine i_ret hC hH (gset_fin (P := fun x k => x = n ∧ k < 3) (fun x hx k => (hz x hx k).1) (fun x k h => ?_) (gfin_Q (P := fun x k => x = n ∧ k < 3) (m := 3) hg rfl (fun j k hj hk => ?_))) rfl ⟨Nat.le_of_ble_eq_true rfl, Nat.le_of_ble_eq_true rfl⟩ rfl dX4_init_28
  · try dsimp only at h
    omega
  · have h2 := (by decide : ∀ j, j ≤ 3 → (gcl (lProc.getD j 0)).length ≤ if j = 0 then 3 else 0) j hj
    try dsimp only
    split at h2 <;> omega
set_option maxHeartbeats 4000000 in
set_option maxRecDepth 100000 in
theorem k_Writer {w : gW} {l : Launch} (hl9 : l.stackTraces = false) {n : Nat} {Rm : Nat → Nat → Nat} {M : gMem} (h1 : 1 ≤ n) (hg : gPat lWriter n) (hz : ∀ x, n ≤ x → ∀ k, Rm x k = 0 ∧ M x k = 0) : gIT w l yX7_init cX7_init 1 1 40 1 2000 n Rm M (gset (fun x _ => n ≤ x ∧ x ≤ n + 1) Rm) M := by
  refine gIT.of hl9 (by decide +kernel) (by decide) rfl (fun x hx k => hz x (by omega) k) ?_
  intro p e s m below meth c hC hH ls hl
  have hC : gIC w p l s m [Value.ref (w.1 + n)].toArray meth c cX7_init 1 RX7 n := hC
  have hH : gIH w n (gset (fun x _ => x < 0) Rm) M s s.heap [] := by rw [gset_no (fun x _ h => absurd h (by omega))]; exact hH
  refine lv_aload_n hC.b.fx.1 hC.b.fx.2.1 dX7_init_0 rfl (lv_at hl 0 rfl) ?_
  refine i_obj hC ob_X7 hl.1 ⟨Nat.le_of_ble_eq_true rfl, Nat.le_of_ble_eq_true rfl⟩ (Nat.le_of_ble_eq_true rfl) dX7_init_1 ?_
  refine lv_aload_n hC.b.fx.1 hC.b.fx.2.1 dX7_init_4 rfl (lv_at hl 0 rfl) ?_
  refine lv_sipush (v := gi (2000)) hC.b.fx.1 hC.b.fx.2.1 dX7_init_5 (by decide) ?_
  refine i_newa (ty := .byte) (kd := 1) (L := 2000) hC hH ac_byte rfl rfl rfl (by decide) (hg 1 (by decide)) (by decide) (by decide) ⟨Nat.le_of_ble_eq_true rfl, Nat.le_of_ble_eq_true rfl⟩ dX7_init_8 (fun H hH => ?_)
  refine j_putR (b := n + 1) hC hH rfl fr_X7_9 ⟨h1, by omega, hg 0 (by decide)⟩ (gRm_of (a := n) (k := 0) (hg 0 (by decide) : gsh (n + 0) = 7)) (by omega) dX7_init_10 (fun H locs hH => ?_)
  have hH := hH.ch (Q := fun x k => x = n ∧ k < 1) (fun x k => by first | omega | (dsimp only; omega))
  refine i_ret hC hH (gset_fin (P := fun x k => x = n ∧ k < 1) (fun x hx k => (hz x hx k).1) (fun x k h => ?_) (gfin_Q (P := fun x k => x = n ∧ k < 1) (m := 1) hg rfl (fun j k hj hk => ?_))) rfl ⟨Nat.le_of_ble_eq_true rfl, Nat.le_of_ble_eq_true rfl⟩ rfl dX7_init_13
  · try dsimp only at h
    omega
  · have h2 := (by decide : ∀ j, j ≤ 1 → (gcl (lWriter.getD j 0)).length ≤ if j = 0 then 1 else 0) j hj
    try dsimp only
    split at h2 <;> omega
set_option maxHeartbeats 4000000 in
set_option maxRecDepth 100000 in
theorem lp_procs {w : gW} {l : Launch} (hl9 : l.stackTraces = false) {n : Nat} {Rm : Nat → Nat → Nat} {M : gMem} (h1 : 1 ≤ n) (hg : gPat lDesk n) {p : Program} {e : Env} {s : State} {m : MethodId} {below : List Frame} {meth : Method} {c : Code} {Q : State → Prop} (hC : gIC w p l s m [Value.ref (w.1 + n)].toArray meth c cX0_init 2 RX0 n)
    (kk : ∀ (H : Heap) (locs : List Loc) (ls : Array Slot), gIH w (n + 40) (gset (fun x k => (x = n ∧ k < 4) ∨ (x = n + 1 ∧ k < 8) ∨ (n + 4 ≤ x ∧ x < n + (9 + 4 * 8))) Rm) M s H locs → lv_has ls 2 [(0, .ref (w.1 + n))] → W p l e { frames := 2, cells := 64, slots := 1117, locals := 80 } s m [Value.ref (w.1 + n)].toArray below meth c H locs 40 853 Q (F0 m 70 ls [])) :
    ∀ (k i : Nat) (hik : i + k = 8) (H : Heap) (locs : List Loc) (ls : Array Slot), gIH w (n + (8 + 4 * i)) (gset (fun x k => (x = n ∧ k < 4) ∨ (x = n + 1 ∧ k < i) ∨ (n + 4 ≤ x ∧ x < n + (9 + 4 * i))) Rm) M s H locs → lv_has ls 2 [(1, .int (gi (i : Int))), (0, .ref (w.1 + n))] →
      W p l e { frames := 2, cells := 64, slots := 1117, locals := 80 } s m [Value.ref (w.1 + n)].toArray below meth c H locs (8 + 4 * i) (189 + 83 * i) Q (F0 m 42 ls []) := by
  intro k
  induction k with
  | zero =>
    intro i hik H locs ls hH hl
    obtain rfl : i = 8 := by omega
    refine lv_iload_n hC.b.fx.1 hC.b.fx.2.1 dX0_init_42 rfl (lv_at hl 0 rfl) ?_
    refine lv_aload_n hC.b.fx.1 hC.b.fx.2.1 dX0_init_43 rfl (lv_at hl 1 rfl) ?_
    refine i_getR (b := n + 1) hC.b hH fl_X0_11 ⟨h1, by omega, hg 0 (by decide)⟩ (by rw [gset_at (by first | omega | (dsimp only; omega))]; exact gRm_of (a := n) (k := 0) (hg 0 (by decide) : gsh (n + 0) = 1)) (by omega) dX0_init_44 ?_
    refine r_alen (t := 148) (N := 8) hC.b.fx hC.b.kf hH.1 4 rfl ⟨by omega, by omega, hg 1 (by decide)⟩ (⟨by decide, by decide⟩ : gAr 148 4) rfl dX0_init_47 ?_
    refine r_icmp_ge (tgt := 70) hC.b.fx (gcR (by omega)) (gcR (by omega)) dX0_init_48 (by decide) (fun _ => ?_) (fun h => absurd h (by omega))
    exact kk H locs ls hH (lv_sub hl [1] rfl)
  | succ k ih =>
    intro i hik H locs ls hH hl
    refine lv_iload_n hC.b.fx.1 hC.b.fx.2.1 dX0_init_42 rfl (lv_at hl 0 rfl) ?_
    refine lv_aload_n hC.b.fx.1 hC.b.fx.2.1 dX0_init_43 rfl (lv_at hl 1 rfl) ?_
    refine i_getR (b := n + 1) hC.b hH fl_X0_11 ⟨h1, by omega, hg 0 (by decide)⟩ (by rw [gset_at (by first | omega | (dsimp only; omega))]; exact gRm_of (a := n) (k := 0) (hg 0 (by decide) : gsh (n + 0) = 1)) (by omega) dX0_init_44 ?_
    refine r_alen (t := 148) (N := 8) hC.b.fx hC.b.kf hH.1 4 rfl ⟨by omega, by omega, hg 1 (by decide)⟩ (⟨by decide, by decide⟩ : gAr 148 4) rfl dX0_init_47 ?_
    refine r_icmp_ge (tgt := 70) hC.b.fx (gcR (by omega)) (gcR (by omega)) dX0_init_48 (by decide) (fun h => absurd h (by omega)) (fun _ => ?_)
    have hp : gPat lProc (n + (9 + 4 * i)) := hg.sub _ (fun j hj => by
      have hh := (by decide +kernel : ∀ i, i < 8 → ∀ j, j < lProc.length → (9 + 4 * i) + j < lDesk.length ∧ lDesk.getD ((9 + 4 * i) + j) 0 = lProc.getD j 0) i (by omega) j hj
      exact hh)
    refine lv_aload_n hC.b.fx.1 hC.b.fx.2.1 dX0_init_51 rfl (lv_at hl 1 rfl) ?_
    refine i_getR (b := n + 1) hC.b hH fl_X0_11 ⟨h1, by omega, hg 0 (by decide)⟩ (by rw [gset_at (by first | omega | (dsimp only; omega))]; exact gRm_of (a := n) (k := 0) (hg 0 (by decide) : gsh (n + 0) = 1)) (by omega) dX0_init_52 ?_
    refine lv_iload_n hC.b.fx.1 hC.b.fx.2.1 dX0_init_55 rfl (lv_at hl 0 rfl) ?_
    have hB := hH.2.2
    refine i_new hC hH nk_X0_9 (by have h0 := hp 0 (by decide); rw [show n + (8 + 4 * i) + 1 = n + (9 + 4 * i) + 0 by omega]; exact h0) ⟨by show 8 + 4 * i + 1 ≤ 64; omega, by show 189 + 83 * i + 15 ≤ 1117; omega⟩ dX0_init_56 (fun H hH => ?_)
    refine lv_dup hC.b.fx.1 hC.b.fx.2.1 dX0_init_59 rfl ?_
    rw [show n + (8 + 4 * i) + 1 = n + (9 + 4 * i) by omega] at hH ⊢
    refine j_call hC hH (k_Proc hl9 (by omega) hp (fun x hx k => hB x (by omega) k)) (fun x hx k => (hB x (by omega) k).2) ck_X0_34 (by omega) (by omega) hl.1 (Nat.le_of_ble_eq_true rfl) ⟨Nat.le_of_ble_eq_true rfl, Nat.le_of_ble_eq_true rfl⟩ ⟨by show 8 + 4 * i + 1 + 3 ≤ 64; omega, by show 189 + 83 * i + 15 + 68 ≤ 1117; omega⟩ dX0_init_60 (fun H locs hH => ?_)
    refine j_aast (i := i) (kd := 4) (t := 148) (t' := 5) (a := n + 1) (b := n + (9 + 4 * i)) hC hH (by omega) rfl rfl (by decide) (by decide) ⟨by omega, by omega, hg 1 (by decide)⟩ ⟨by omega, by omega, hp 0 (by decide)⟩ (by decide) (by show i < 8; omega) (by omega) ?_ dX0_init_63 (fun H locs hH => ?_)
    · rw [gRm_of (t := 148) (hg 1 (by decide) : gsh (n + 1) = 148), gch_148 (k := i) (by omega)]
      show n + 1 + _ = _
      omega
    refine r_iinc (k := 0) (lv' := [(1, .int (gi (gwi ((i : Int) + 1)))), (0, .ref (w.1 + n))]) hC.b.fx dX0_init_64 hl rfl (by decide) rfl (fun ls hl => ?_)
    refine lv_goto (tgt := 42) hC.b.fx.1 hC.b.fx.2.1 dX0_init_67 (by decide) ?_
    rw [gwi_id (gcR (by omega))] at hl
    have hH := hH.ch (Q := fun x k => (x = n ∧ k < 4) ∨ (x = n + 1 ∧ k < (i + 1)) ∨ (n + 4 ≤ x ∧ x < n + (9 + 4 * (i + 1)))) (fun x k => by first | omega | (dsimp only; omega))
    have e1 : n + (9 + 4 * i) + 3 = n + (8 + 4 * (i + 1)) := by omega
    rw [e1] at hH
    have e2 : 8 + 4 * i + 1 + 3 = 8 + 4 * (i + 1) := by omega
    have e3 : 189 + 83 * i + 15 + 68 = 189 + 83 * (i + 1) := by omega
    show W p l e _ s m _ below meth c H locs (8 + 4 * i + 1 + 3) (189 + 83 * i + 15 + 68) Q (F0 m 42 ls [])
    rw [e2, e3]
    exact ih (i + 1) (by omega) H locs ls hH hl
set_option maxHeartbeats 4000000 in
set_option maxRecDepth 100000 in
theorem lp_piles {w : gW} {l : Launch} (hl9 : l.stackTraces = false) {n : Nat} {Rm : Nat → Nat → Nat} {M : gMem} (h1 : 1 ≤ n) (hg : gPat lDesk n) {p : Program} {e : Env} {s : State} {m : MethodId} {below : List Frame} {meth : Method} {c : Code} {Q : State → Prop} (hC : gIC w p l s m [Value.ref (w.1 + n)].toArray meth c cX0_init 2 RX0 n)
    (kk : ∀ (H : Heap) (locs : List Loc) (ls : Array Slot), gIH w (n + 64) (gset (fun x k => (x = n ∧ k < 4) ∨ (x = n + 1 ∧ k < 8) ∨ (x = n + 2 ∧ k < 12) ∨ (n + 4 ≤ x ∧ x < n + (41 + 2 * 12))) Rm) M s H locs → lv_has ls 2 [(0, .ref (w.1 + n))] → W p l e { frames := 2, cells := 64, slots := 1117, locals := 80 } s m [Value.ref (w.1 + n)].toArray below meth c H locs 64 1117 Q (F0 m 100 ls [])) :
    ∀ (k i : Nat) (hik : i + k = 12) (H : Heap) (locs : List Loc) (ls : Array Slot), gIH w (n + (40 + 2 * i)) (gset (fun x k => (x = n ∧ k < 4) ∨ (x = n + 1 ∧ k < 8) ∨ (x = n + 2 ∧ k < i) ∨ (n + 4 ≤ x ∧ x < n + (41 + 2 * i))) Rm) M s H locs → lv_has ls 2 [(1, .int (gi (i : Int))), (0, .ref (w.1 + n))] →
      W p l e { frames := 2, cells := 64, slots := 1117, locals := 80 } s m [Value.ref (w.1 + n)].toArray below meth c H locs (40 + 2 * i) (853 + 22 * i) Q (F0 m 72 ls []) := by
  intro k
  induction k with
  | zero =>
    intro i hik H locs ls hH hl
    obtain rfl : i = 12 := by omega
    refine lv_iload_n hC.b.fx.1 hC.b.fx.2.1 dX0_init_72 rfl (lv_at hl 0 rfl) ?_
    refine lv_aload_n hC.b.fx.1 hC.b.fx.2.1 dX0_init_73 rfl (lv_at hl 1 rfl) ?_
    refine i_getR (b := n + 2) hC.b hH fl_X0_19 ⟨h1, by omega, hg 0 (by decide)⟩ (by rw [gset_at (by first | omega | (dsimp only; omega))]; exact gRm_of (a := n) (k := 1) (hg 0 (by decide) : gsh (n + 0) = 1)) (by omega) dX0_init_74 ?_
    refine r_alen (t := 213) (N := 12) hC.b.fx hC.b.kf hH.1 5 rfl ⟨by omega, by omega, hg 2 (by decide)⟩ (⟨by decide, by decide⟩ : gAr 213 5) rfl dX0_init_77 ?_
    refine r_icmp_ge (tgt := 100) hC.b.fx (gcR (by omega)) (gcR (by omega)) dX0_init_78 (by decide) (fun _ => ?_) (fun h => absurd h (by omega))
    exact kk H locs ls hH (lv_sub hl [1] rfl)
  | succ k ih =>
    intro i hik H locs ls hH hl
    refine lv_iload_n hC.b.fx.1 hC.b.fx.2.1 dX0_init_72 rfl (lv_at hl 0 rfl) ?_
    refine lv_aload_n hC.b.fx.1 hC.b.fx.2.1 dX0_init_73 rfl (lv_at hl 1 rfl) ?_
    refine i_getR (b := n + 2) hC.b hH fl_X0_19 ⟨h1, by omega, hg 0 (by decide)⟩ (by rw [gset_at (by first | omega | (dsimp only; omega))]; exact gRm_of (a := n) (k := 1) (hg 0 (by decide) : gsh (n + 0) = 1)) (by omega) dX0_init_74 ?_
    refine r_alen (t := 213) (N := 12) hC.b.fx hC.b.kf hH.1 5 rfl ⟨by omega, by omega, hg 2 (by decide)⟩ (⟨by decide, by decide⟩ : gAr 213 5) rfl dX0_init_77 ?_
    refine r_icmp_ge (tgt := 100) hC.b.fx (gcR (by omega)) (gcR (by omega)) dX0_init_78 (by decide) (fun h => absurd h (by omega)) (fun _ => ?_)
    have hp : gPat lPile (n + (41 + 2 * i)) := hg.sub _ (fun j hj => by
      have hh := (by decide +kernel : ∀ i, i < 12 → ∀ j, j < lPile.length → (41 + 2 * i) + j < lDesk.length ∧ lDesk.getD ((41 + 2 * i) + j) 0 = lPile.getD j 0) i (by omega) j hj
      exact hh)
    refine lv_aload_n hC.b.fx.1 hC.b.fx.2.1 dX0_init_81 rfl (lv_at hl 1 rfl) ?_
    refine i_getR (b := n + 2) hC.b hH fl_X0_19 ⟨h1, by omega, hg 0 (by decide)⟩ (by rw [gset_at (by first | omega | (dsimp only; omega))]; exact gRm_of (a := n) (k := 1) (hg 0 (by decide) : gsh (n + 0) = 1)) (by omega) dX0_init_82 ?_
    refine lv_iload_n hC.b.fx.1 hC.b.fx.2.1 dX0_init_85 rfl (lv_at hl 0 rfl) ?_
    have hB := hH.2.2
    refine i_new hC hH nk_X0_17 (by have h0 := hp 0 (by decide); rw [show n + (40 + 2 * i) + 1 = n + (41 + 2 * i) + 0 by omega]; exact h0) ⟨by show 40 + 2 * i + 1 ≤ 64; omega, by show 853 + 22 * i + 6 ≤ 1117; omega⟩ dX0_init_86 (fun H hH => ?_)
    refine lv_dup hC.b.fx.1 hC.b.fx.2.1 dX0_init_89 rfl ?_
    rw [show n + (40 + 2 * i) + 1 = n + (41 + 2 * i) by omega] at hH ⊢
    refine j_call hC hH (k_Pile hl9 (by omega) hp (fun x hx k => hB x (by omega) k)) (fun x hx k => (hB x (by omega) k).2) ck_X0_35 (by omega) (by omega) hl.1 (Nat.le_of_ble_eq_true rfl) ⟨Nat.le_of_ble_eq_true rfl, Nat.le_of_ble_eq_true rfl⟩ ⟨by show 40 + 2 * i + 1 + 1 ≤ 64; omega, by show 853 + 22 * i + 6 + 16 ≤ 1117; omega⟩ dX0_init_90 (fun H locs hH => ?_)
    refine j_aast (i := i) (kd := 5) (t := 213) (t' := 4) (a := n + 2) (b := n + (41 + 2 * i)) hC hH (by omega) rfl rfl (by decide) (by decide) ⟨by omega, by omega, hg 2 (by decide)⟩ ⟨by omega, by omega, hp 0 (by decide)⟩ (by decide) (by show i < 12; omega) (by omega) ?_ dX0_init_93 (fun H locs hH => ?_)
    · rw [gRm_of (t := 213) (hg 2 (by decide) : gsh (n + 2) = 213), gch_213 (k := i) (by omega)]
      show n + 2 + _ = _
      omega
    refine r_iinc (k := 0) (lv' := [(1, .int (gi (gwi ((i : Int) + 1)))), (0, .ref (w.1 + n))]) hC.b.fx dX0_init_94 hl rfl (by decide) rfl (fun ls hl => ?_)
    refine lv_goto (tgt := 72) hC.b.fx.1 hC.b.fx.2.1 dX0_init_97 (by decide) ?_
    rw [gwi_id (gcR (by omega))] at hl
    have hH := hH.ch (Q := fun x k => (x = n ∧ k < 4) ∨ (x = n + 1 ∧ k < 8) ∨ (x = n + 2 ∧ k < (i + 1)) ∨ (n + 4 ≤ x ∧ x < n + (41 + 2 * (i + 1)))) (fun x k => by first | omega | (dsimp only; omega))
    have e1 : n + (41 + 2 * i) + 1 = n + (40 + 2 * (i + 1)) := by omega
    rw [e1] at hH
    have e2 : 40 + 2 * i + 1 + 1 = 40 + 2 * (i + 1) := by omega
    have e3 : 853 + 22 * i + 6 + 16 = 853 + 22 * (i + 1) := by omega
    show W p l e _ s m _ below meth c H locs (40 + 2 * i + 1 + 1) (853 + 22 * i + 6 + 16) Q (F0 m 72 ls [])
    rw [e2, e3]
    exact ih (i + 1) (by omega) H locs ls hH hl
set_option maxHeartbeats 4000000 in
set_option maxRecDepth 100000 in
theorem k_Desk {w : gW} {l : Launch} (hl9 : l.stackTraces = false) {n : Nat} {Rm : Nat → Nat → Nat} {M : gMem} (h1 : 1 ≤ n) (hg : gPat lDesk n) (hz : ∀ x, n ≤ x → ∀ k, Rm x k = 0 ∧ M x k = 0) : gIT w l yX0_init cX0_init 2 2 80 64 1117 n Rm M (gset (fun x _ => n ≤ x ∧ x ≤ n + 64) Rm) M := by
  refine gIT.of hl9 (by decide +kernel) (by decide) rfl (fun x hx k => hz x (by omega) k) ?_
  intro p e s m below meth c hC hH ls hl
  have hC : gIC w p l s m [Value.ref (w.1 + n)].toArray meth c cX0_init 2 RX0 n := hC
  have hH : gIH w n (gset (fun x _ => x < 0) Rm) M s s.heap [] := by rw [gset_no (fun x _ h => absurd h (by omega))]; exact hH
  have hl : lv_has ls 2 [(0, .ref (w.1 + n))] := hl
  refine lv_aload_n hC.b.fx.1 hC.b.fx.2.1 dX0_init_0 rfl (lv_at hl 0 rfl) ?_
  refine i_obj hC ob_X0 hl.1 ⟨Nat.le_of_ble_eq_true rfl, Nat.le_of_ble_eq_true rfl⟩ (Nat.le_of_ble_eq_true rfl) dX0_init_1 ?_
  refine lv_aload_n hC.b.fx.1 hC.b.fx.2.1 dX0_init_4 rfl (lv_at hl 0 rfl) ?_
  refine lv_bipush (v := gi (8)) hC.b.fx.1 hC.b.fx.2.1 dX0_init_5 (by decide) ?_
  refine i_anew (C := RX4) (kd := 4) (L := 8) hC hH cl_X0_9 hC.2.1.1 rfl (by decide) (hg 1 (by decide)) (by decide) ⟨Nat.le_of_ble_eq_true rfl, Nat.le_of_ble_eq_true rfl⟩ dX0_init_7 (fun H hH => ?_)
  refine j_putR (b := n + 1) hC hH rfl fr_X0_11 ⟨h1, by omega, hg 0 (by decide)⟩ (gRm_of (a := n) (k := 0) (hg 0 (by decide) : gsh (n + 0) = 1)) (by omega) dX0_init_10 (fun H locs hH => ?_)
  refine lv_aload_n hC.b.fx.1 hC.b.fx.2.1 dX0_init_13 rfl (lv_at hl 0 rfl) ?_
  refine lv_bipush (v := gi (12)) hC.b.fx.1 hC.b.fx.2.1 dX0_init_14 (by decide) ?_
  refine i_anew (C := RX3) (kd := 5) (L := 12) hC hH cl_X0_17 hC.2.1.2.1 rfl (by decide) (hg 2 (by decide)) (by decide) ⟨Nat.le_of_ble_eq_true rfl, Nat.le_of_ble_eq_true rfl⟩ dX0_init_16 (fun H hH => ?_)
  refine j_putR (b := n + 2) hC hH rfl fr_X0_19 ⟨h1, by omega, hg 0 (by decide)⟩ (gRm_of (a := n) (k := 1) (hg 0 (by decide) : gsh (n + 0) = 1)) (by omega) dX0_init_19 (fun H locs hH => ?_)
  refine lv_aload_n hC.b.fx.1 hC.b.fx.2.1 dX0_init_22 rfl (lv_at hl 0 rfl) ?_
  refine lv_iconst (v := gi (4)) hC.b.fx.1 hC.b.fx.2.1 dX0_init_23 rfl ?_
  refine i_newa (ty := .int) (kd := 0) (L := 4) hC hH ac_int rfl rfl rfl (by decide) (hg 3 (by decide)) (by decide) (by decide) ⟨Nat.le_of_ble_eq_true rfl, Nat.le_of_ble_eq_true rfl⟩ dX0_init_24 (fun H hH => ?_)
  refine j_putR (b := n + 3) hC hH rfl fr_X0_23 ⟨h1, by omega, hg 0 (by decide)⟩ (gRm_of (a := n) (k := 2) (hg 0 (by decide) : gsh (n + 0) = 1)) (by omega) dX0_init_26 (fun H locs hH => ?_)
  refine lv_aload_n hC.b.fx.1 hC.b.fx.2.1 dX0_init_29 rfl (lv_at hl 0 rfl) ?_
  have hB := hH.2.2
  refine i_new hC hH nk_X0_27 (hg 4 (by decide)) ⟨Nat.le_of_ble_eq_true rfl, Nat.le_of_ble_eq_true rfl⟩ dX0_init_30 (fun H hH => ?_)
  refine lv_dup hC.b.fx.1 hC.b.fx.2.1 dX0_init_33 rfl ?_
  refine j_call (n := n + 4) hC hH (k_Log hl9 (by omega) (hg.sub 4 (by decide)) (fun x hx k => hB x (by omega) k)) (fun x hx k => (hB x (by omega) k).2) ck_X0_29 rfl (by omega) hl.1 (Nat.le_of_ble_eq_true rfl) ⟨Nat.le_of_ble_eq_true rfl, Nat.le_of_ble_eq_true rfl⟩ ⟨Nat.le_of_ble_eq_true rfl, Nat.le_of_ble_eq_true rfl⟩ dX0_init_34 (fun H locs hH => ?_)
  refine j_putR (b := n + 4) hC hH rfl fr_X0_30 ⟨h1, by omega, hg 0 (by decide)⟩ (gRm_of (a := n) (k := 3) (hg 0 (by decide) : gsh (n + 0) = 1)) (by omega) dX0_init_37 (fun H locs hH => ?_)
  refine lv_iconst (v := gi (0)) hC.b.fx.1 hC.b.fx.2.1 dX0_init_40 rfl ?_
  refine lv_istore_n (lv' := [(1, .int (gi 0)), (0, .ref (w.1 + n))]) hC.b.fx.1 hC.b.fx.2.1 dX0_init_41 rfl hl (by decide) rfl (fun ls hl => ?_)
  have hH := hH.ch (Q := fun x k => (x = n ∧ k < 4) ∨ (x = n + 1 ∧ k < 0) ∨ (n + 4 ≤ x ∧ x < n + (9 + 4 * 0))) (fun x k => by first | omega | (dsimp only; omega))
  refine lp_procs hl9 h1 hg hC (fun H locs ls hH hl => ?_) 8 0 rfl H locs ls hH hl
  refine lv_iconst (v := gi (0)) hC.b.fx.1 hC.b.fx.2.1 dX0_init_70 rfl ?_
  refine lv_istore_n (lv' := [(1, .int (gi 0)), (0, .ref (w.1 + n))]) hC.b.fx.1 hC.b.fx.2.1 dX0_init_71 rfl hl (by decide) rfl (fun ls hl => ?_)
  have hH := hH.ch (Q := fun x k => (x = n ∧ k < 4) ∨ (x = n + 1 ∧ k < 8) ∨ (x = n + 2 ∧ k < 0) ∨ (n + 4 ≤ x ∧ x < n + (41 + 2 * 0))) (fun x k => by first | omega | (dsimp only; omega))
  refine lp_piles hl9 h1 hg hC (fun H locs ls hH hl => ?_) 12 0 rfl H locs ls hH hl
  have hH := hH.ch (Q := fun x k => (x = n ∧ k < 4) ∨ (x = n + 1 ∧ k < 8) ∨ (x = n + 2 ∧ k < 12) ∨ (n + 4 ≤ x ∧ x < n + (41 + 2 * 12))) (fun x k => by first | omega | (dsimp only; omega))
  refine i_ret hC hH (gset_fin (P := fun x k => (x = n ∧ k < 4) ∨ (x = n + 1 ∧ k < 8) ∨ (x = n + 2 ∧ k < 12) ∨ (n + 4 ≤ x ∧ x < n + (41 + 2 * 12))) (fun x hx k => (hz x hx k).1) (fun x k h => ?_) (gfin_Q (P := fun x k => (x = n ∧ k < 4) ∨ (x = n + 1 ∧ k < 8) ∨ (x = n + 2 ∧ k < 12) ∨ (n + 4 ≤ x ∧ x < n + (41 + 2 * 12))) (m := 64) hg rfl (fun j k hj hk => ?_))) rfl ⟨Nat.le_of_ble_eq_true rfl, Nat.le_of_ble_eq_true rfl⟩ rfl dX0_init_100
  · try dsimp only at h
    omega
  · have h2 := (by decide +kernel : ∀ j, j ≤ 64 → (gcl (lDesk.getD j 0)).length ≤ if j = 0 then 4 else if j = 1 then 8 else if j = 2 then 12 else if j = 3 then 0 else 1000) j hj
    try dsimp only
    split at h2
    · omega
    · split at h2
      · omega
      · split at h2
        · omega
        · split at h2 <;> omega
