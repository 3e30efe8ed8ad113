/-! The constructors of the class and of the reference (printed by wip/gen/mk_make3.py) -/
theorem gLC_part {L : List Nat} {K d : Nat} {Rm : Nat → Nat → Nat} (hg : gPat L d) (h1 : 1 ≤ d) (hK : ((List.range L.length).all fun j => decide ((gcl (L.getD j 0)).length ≤ K) && (List.range K).all fun k => match gch (L.getD j 0) k with | some q => decide (j + q.1 < L.length) && decide (L.getD (j + q.1) 0 = q.2) | none => true) = true) (hR : ∀ x, d ≤ x → x < d + L.length → ∀ k, ∀ q, gch (gsh x) k = some q → Rm x k = gRm x k) :
    gLC (fun x => if d ≤ x ∧ x < d + L.length then gsh x else 0) (d + L.length - 1) Rm := by
  intro a ha
  by_cases c : d ≤ a ∧ a < d + L.length
  · dsimp only at ha ⊢
    rw [if_pos c] at ha ⊢
    refine ⟨⟨by omega, by omega, rfl⟩, fun k q hq => ?_⟩
    have hr := hR a c.1 c.2 k q hq
    obtain ⟨j, rfl⟩ : ∃ j, a = d + j := ⟨a - d, by omega⟩
    have hj : j < L.length := by omega
    have hgr : gRm (d + j) k = d + j + q.1 := by
      unfold gRm
      rw [hq]
    rw [hg j hj] at hq
    have h2 := List.all_eq_true.mp hK j (List.mem_range.mpr hj)
    simp only [Bool.and_eq_true, decide_eq_true_eq] at h2
    have h3 := List.all_eq_true.mp h2.2 k (List.mem_range.mpr (Nat.lt_of_lt_of_le (gch_wd hq) h2.1))
    rw [hq] at h3
    simp only [Bool.and_eq_true, decide_eq_true_eq] at h3
    refine ⟨hr.trans hgr, ?_⟩
    rw [if_pos ⟨by omega, by omega⟩, Nat.add_assoc, hg _ h3.1, h3.2]
  · dsimp only at ha
    rw [if_neg c] at ha
    exact absurd rfl ha
theorem gw_X8_313 : Cond.methodLink RX8 16 yX0_begin ∈ gG := gG_in 313 (by decide +kernel) (by decide +kernel)
theorem gw_X8_318 : Cond.methodLink RX8 22 yX0_addProc ∈ gG := gG_in 318 (by decide +kernel) (by decide +kernel)
theorem gw_X8_317 : Cond.constantLong RX8 20 (97) ∈ gG := gG_in 317 (by decide +kernel) (by decide +kernel)
theorem cv_X8_16 : gCV RX8 16 yX0_begin cX0_begin 3 none 1 := ⟨gw_X8_313, gw_314, gw_315, gw_93, gw_316, by decide +kernel⟩
theorem cv_X8_22 : gCV RX8 22 yX0_addProc cX0_addProc 4 (some (.object "StackDesk$Proc")) 1 := ⟨gw_X8_318, gw_319, gw_320, gw_93, gw_321, by decide +kernel⟩
set_option maxHeartbeats 4000000 in
set_option maxRecDepth 100000 in
theorem lp_face {w : gW} {l : Launch} (hl9 : l.stackTraces = false) {n : Nat} {Rm : Nat → Nat → Nat} {M : gMem} (h1 : 1 ≤ n) (hg0 : gsh n = 8) (hg653 : gsh (n + 653) = 54) (hgS : ∀ i, i < 2 → gPat lDesk (n + (654 + 65 * i))) {p : Program} {e : Env} {s : State} {m : MethodId} {below : List Frame} {meth : Method} {c : Code} {Q : State → Prop} (hC : gIC w p l s m [Value.ref (w.1 + n)].toArray meth c cX8_init 2 RX8 n)
    (kk : ∀ (H : Heap) (locs : List Loc) (ls : Array Slot), gIH w (n + 783) (gset (fun x k => (x = n ∧ k < 4) ∨ (n + 1 ≤ x ∧ x ≤ n + 652) ∨ (x = n + 653 ∧ k < 2) ∨ (n + 654 ≤ x ∧ x < n + (654 + 65 * 2))) Rm) M s H locs → lv_has ls 2 [(0, .ref (w.1 + n))] → W p l e { frames := 4, cells := 853, slots := 17266, locals := 140 } s m [Value.ref (w.1 + n)].toArray below meth c H locs 783 13525 Q (F0 m 94 ls [])) :
    ∀ (k i : Nat) (hik : i + k = 2) (H : Heap) (locs : List Loc) (ls : Array Slot), gIH w (n + (653 + 65 * i)) (gset (fun x k => (x = n ∧ k < 4) ∨ (n + 1 ≤ x ∧ x ≤ n + 652) ∨ (x = n + 653 ∧ k < i) ∨ (n + 654 ≤ x ∧ x < n + (654 + 65 * i))) Rm) M s H locs → lv_has ls 2 [(1, .int (gi (i : Int))), (0, .ref (w.1 + n))] →
      W p l e { frames := 4, cells := 853, slots := 17266, locals := 140 } s m [Value.ref (w.1 + n)].toArray below meth c H locs (653 + 65 * i) (11273 + 1126 * i) Q (F0 m 66 ls []) := by
  intro k
  induction k with
  | zero =>
    intro i hik H locs ls hH hl
    obtain rfl : i = 2 := by omega
    refine lv_iload_n hC.b.fx.1 hC.b.fx.2.1 dX8_init_66 rfl (lv_at hl 0 rfl) ?_
    refine lv_aload_n hC.b.fx.1 hC.b.fx.2.1 dX8_init_67 rfl (lv_at hl 1 rfl) ?_
    refine i_getR (b := n + 653) hC.b hH fl_X8_36 ⟨h1, by omega, hg0⟩ (by rw [gset_at (by first | omega | (dsimp only; omega))]; exact gRm_of (a := n) (k := 3) hg0) (by omega) dX8_init_68 ?_
    refine r_alen (t := 54) (N := 2) hC.b.fx hC.b.kf hH.1 6 rfl ⟨by omega, by omega, hg653⟩ (⟨by decide, by decide⟩ : gAr 54 6) rfl dX8_init_71 ?_
    refine r_icmp_ge (tgt := 94) hC.b.fx (gcR (by omega)) (gcR (by omega)) dX8_init_72 (by decide) (fun _ => ?_) (fun h => absurd h (by omega))
    exact kk H locs ls hH (lv_sub hl [1] rfl)
  | succ k ih =>
    intro i hik H locs ls hH hl
    refine lv_iload_n hC.b.fx.1 hC.b.fx.2.1 dX8_init_66 rfl (lv_at hl 0 rfl) ?_
    refine lv_aload_n hC.b.fx.1 hC.b.fx.2.1 dX8_init_67 rfl (lv_at hl 1 rfl) ?_
    refine i_getR (b := n + 653) hC.b hH fl_X8_36 ⟨h1, by omega, hg0⟩ (by rw [gset_at (by first | omega | (dsimp only; omega))]; exact gRm_of (a := n) (k := 3) hg0) (by omega) dX8_init_68 ?_
    refine r_alen (t := 54) (N := 2) hC.b.fx hC.b.kf hH.1 6 rfl ⟨by omega, by omega, hg653⟩ (⟨by decide, by decide⟩ : gAr 54 6) rfl dX8_init_71 ?_
    refine r_icmp_ge (tgt := 94) hC.b.fx (gcR (by omega)) (gcR (by omega)) dX8_init_72 (by decide) (fun h => absurd h (by omega)) (fun _ => ?_)
    have hp : gPat lDesk (n + (654 + 65 * i)) := hgS i (by omega)
    refine lv_aload_n hC.b.fx.1 hC.b.fx.2.1 dX8_init_75 rfl (lv_at hl 1 rfl) ?_
    refine i_getR (b := n + 653) hC.b hH fl_X8_36 ⟨h1, by omega, hg0⟩ (by rw [gset_at (by first | omega | (dsimp only; omega))]; exact gRm_of (a := n) (k := 3) hg0) (by omega) dX8_init_76 ?_
    refine lv_iload_n hC.b.fx.1 hC.b.fx.2.1 dX8_init_79 rfl (lv_at hl 0 rfl) ?_
    have hB := hH.2.2
    refine i_new hC hH nk_X8_7 (by have h0 := hp 0 (by decide); rw [show n + (653 + 65 * i) + 1 = n + (654 + 65 * i) + 0 by omega]; exact h0) ⟨by show 653 + 65 * i + 1 ≤ 853; omega, by show 11273 + 1126 * i + 9 ≤ 17266; omega⟩ dX8_init_80 (fun H hH => ?_)
    refine lv_dup hC.b.fx.1 hC.b.fx.2.1 dX8_init_83 rfl ?_
    rw [show n + (653 + 65 * i) + 1 = n + (654 + 65 * i) by omega] at hH ⊢
    refine j_call hC hH (k_Desk hl9 (by omega) hp (fun x hx k => hB x (by omega) k)) (fun x hx k => (hB x (by omega) k).2) ck_X8_9 (by omega) (by omega) hl.1 (Nat.le_of_ble_eq_true rfl) ⟨Nat.le_of_ble_eq_true rfl, Nat.le_of_ble_eq_true rfl⟩ ⟨by show 653 + 65 * i + 1 + 64 ≤ 853; omega, by show 11273 + 1126 * i + 9 + 1117 ≤ 17266; omega⟩ dX8_init_84 (fun H locs hH => ?_)
    refine j_aast (i := i) (kd := 6) (t := 54) (t' := 1) (a := n + 653) (b := n + (654 + 65 * i)) hC hH (by omega) rfl rfl (by decide) (by decide) ⟨by omega, by omega, hg653⟩ ⟨by omega, by omega, hp 0 (by decide)⟩ (by decide) (by show i < 2; omega) (by omega) ?_ dX8_init_87 (fun H locs hH => ?_)
    · rw [gRm_of (t := 54) hg653, gch_54 (k := i) (by omega)]
      show n + 653 + _ = _
      omega
    refine r_iinc (k := 0) (lv' := [(1, .int (gi (gwi ((i : Int) + 1)))), (0, .ref (w.1 + n))]) hC.b.fx dX8_init_88 hl rfl (by decide) rfl (fun ls hl => ?_)
    refine lv_goto (tgt := 66) hC.b.fx.1 hC.b.fx.2.1 dX8_init_91 (by decide) ?_
    rw [gwi_id (gcR (by omega))] at hl
    have hH := hH.ch (Q := fun x k => (x = n ∧ k < 4) ∨ (n + 1 ≤ x ∧ x ≤ n + 652) ∨ (x = n + 653 ∧ k < (i + 1)) ∨ (n + 654 ≤ x ∧ x < n + (654 + 65 * (i + 1)))) (fun x k => by first | omega | (dsimp only; omega))
    have e1 : n + (654 + 65 * i) + 64 = n + (653 + 65 * (i + 1)) := by omega
    rw [e1] at hH
    have e2 : 653 + 65 * i + 1 + 64 = 653 + 65 * (i + 1) := by omega
    have e3 : 11273 + 1126 * i + 9 + 1117 = 11273 + 1126 * (i + 1) := by omega
    show W p l e _ s m _ below meth c H locs (653 + 65 * i + 1 + 64) (11273 + 1126 * i + 9 + 1117) Q (F0 m 66 ls [])
    rw [e2, e3]
    exact ih (i + 1) (by omega) H locs ls hH hl
set_option maxHeartbeats 8000000 in
set_option maxRecDepth 100000 in
theorem k_Face {w : gW} {l : Launch} (hl9 : l.stackTraces = false) {n : Nat} {Rm : Nat → Nat → Nat} {M M1 M2 : gMem} (h1 : 1 ≤ n) (hg0 : gsh n = 8) (hg653 : gsh (n + 653) = 54) (hg784 : gsh (n + 784) = 50) (hgD1 : gPat lDesk (n + 1)) (hgD2 : gPat lDesk (n + 66)) (hgH : gPat lHist (n + 131)) (hgS : ∀ i, i < 2 → gPat lDesk (n + (654 + 65 * i))) (hgR : gPat lReader (n + 785)) (hgW : gPat lWriter (n + 852)) (hz : ∀ x, n ≤ x → ∀ k, Rm x k = 0 ∧ M x k = 0) (he1 : fX0_begin (fun x => if n + 1 ≤ x ∧ x < n + 1 + lDesk.length then gsh x else 0) (n + 1) 1 M = some M1) (he2 : ∃ b, fX0_addProc (fun x => if n + 1 ≤ x ∧ x < n + 1 + lDesk.length then gsh x else 0) (n + 1) 97 M1 = some (b, M2)) (hz1 : ∀ x, n + 66 ≤ x → ∀ k, M1 x k = 0) (hz2 : ∀ x, n + 66 ≤ x → ∀ k, M2 x k = 0) : gIT w l yX8_init cX8_init 2 4 140 853 17266 n Rm M (gset (fun x _ => n ≤ x ∧ x ≤ n + 853) Rm) (gup M2 (n + 785) 4 (-1)) := by
  refine gIT.of hl9 (by decide +kernel) (by decide) rfl (fun x hx k => hz x (by omega) k) ?_
  intro p e s m below meth c hC hH ls hl
  have hC : gIC w p l s m [Value.ref (w.1 + n)].toArray meth c cX8_init 2 RX8 n := hC
  have hl : lv_has ls 2 [(0, .ref (w.1 + n))] := hl
  have hH : gIH w n (gset (fun x _ => x < 0) Rm) M s s.heap [] := by rw [gset_no (fun x _ h => absurd h (by omega))]; exact hH
  refine lv_aload_n hC.b.fx.1 hC.b.fx.2.1 dX8_init_0 rfl (lv_at hl 0 rfl) ?_
  refine i_obj hC ob_X8 hl.1 ⟨Nat.le_of_ble_eq_true rfl, Nat.le_of_ble_eq_true rfl⟩ (Nat.le_of_ble_eq_true rfl) dX8_init_1 ?_
  refine lv_aload_n hC.b.fx.1 hC.b.fx.2.1 dX8_init_4 rfl (lv_at hl 0 rfl) ?_
  have hB := hH.2.2
  refine i_new hC hH nk_X8_7 (hgD1 0 (by decide)) ⟨Nat.le_of_ble_eq_true rfl, Nat.le_of_ble_eq_true rfl⟩ dX8_init_5 (fun H hH => ?_)
  refine lv_dup hC.b.fx.1 hC.b.fx.2.1 dX8_init_8 rfl ?_
  refine j_call (n := n + 1) hC hH (k_Desk hl9 (by omega) hgD1 (fun x hx k => hB x (by omega) k)) (fun x hx k => (hB x (by omega) k).2) ck_X8_9 rfl (by omega) hl.1 (Nat.le_of_ble_eq_true rfl) ⟨Nat.le_of_ble_eq_true rfl, Nat.le_of_ble_eq_true rfl⟩ ⟨Nat.le_of_ble_eq_true rfl, Nat.le_of_ble_eq_true rfl⟩ dX8_init_9 (fun H locs hH => ?_)
  refine j_putR (b := n + 1) hC hH rfl fr_X8_10 ⟨h1, by omega, hg0⟩ (gRm_of (a := n) (k := 0) hg0) (by omega) dX8_init_12 (fun H locs hH => ?_)
  have hH := hH.ch (Q := fun x k => (x = n ∧ k < 1) ∨ (n + 1 ≤ x ∧ x ≤ n + 65)) (fun x k => by first | omega | (dsimp only; omega))
  have hLC : gLC (fun x => if n + 1 ≤ x ∧ x < n + 1 + lDesk.length then gsh x else 0) (n + 65) (gset (fun x k => (x = n ∧ k < 1) ∨ (n + 1 ≤ x ∧ x ≤ n + 65)) Rm) := gLC_part (K := 12) (d := n + 1) hgD1 (by omega) (by decide +kernel) (fun x h2 h3 k q _ => gset_at (P := fun x k => (x = n ∧ k < 1) ∨ (n + 1 ≤ x ∧ x ≤ n + 65)) (by
    have h4 : x < n + 1 + 65 := h3
    first | omega | (dsimp only; omega)))
  have hgd : (fun x => if n + 1 ≤ x ∧ x < n + 1 + lDesk.length then gsh x else 0) (n + 1) = 1 := by
    show (if n + 1 ≤ n + 1 ∧ n + 1 < n + 1 + 65 then gsh (n + 1) else 0) = 1
    rw [if_pos ⟨by omega, by omega⟩]
    exact hgD1 0 (by decide)
  obtain ⟨b2, he2⟩ := he2
  refine lv_aload_n hC.b.fx.1 hC.b.fx.2.1 dX8_init_15 rfl (lv_at hl 0 rfl) ?_
  refine i_getR (b := n + 1) hC.b hH fl_X8_10 ⟨h1, by omega, hg0⟩ (by rw [gset_at (by first | omega | (dsimp only; omega))]; exact gRm_of (a := n) (k := 0) hg0) (by omega) dX8_init_16 ?_
  refine lv_iconst (v := gi (1)) hC.b.fx.1 hC.b.fx.2.1 dX8_init_19 rfl ?_
  refine i_go (v := none) (M' := M1) hC hH rfl (fun x hx k => ⟨(hH.2.2 x hx k).1, hz1 x (by omega) k⟩) rfl (r_runV (As := [.int (gi 1)]) (b := n + 1) hC.b hH.1 cv_X8_16 (mX0_begin hLC hl9 hgd (gcR (k := 1) (by decide)) he1) ⟨by omega, by omega, hgD1 0 (by decide)⟩ (by decide) rfl rfl rfl hl.1 rfl (Nat.le_of_ble_eq_true rfl) ⟨Nat.le_of_ble_eq_true rfl, Nat.le_of_ble_eq_true rfl⟩ ⟨Nat.le_of_ble_eq_true rfl, Nat.le_of_ble_eq_true rfl⟩ dX8_init_20) (fun _ H locs hH => ?_)
  refine lv_aload_n hC.b.fx.1 hC.b.fx.2.1 dX8_init_23 rfl (lv_at hl 0 rfl) ?_
  refine i_getR (b := n + 1) hC.b hH fl_X8_10 ⟨h1, by omega, hg0⟩ (by rw [gset_at (by first | omega | (dsimp only; omega))]; exact gRm_of (a := n) (k := 0) hg0) (by omega) dX8_init_24 ?_
  refine r_ldc2 (x := 97) hC.b.fx gw_X8_317 (by decide) dX8_init_27 ?_
  refine i_go (v := some (gvR w b2)) (M' := M2) hC hH rfl (fun x hx k => ⟨(hH.2.2 x hx k).1, hz2 x (by omega) k⟩) rfl (r_runV (As := [.long (gj 97)]) (b := n + 1) hC.b hH.1 cv_X8_22 (mX0_addProc hLC hl9 hgd (by unfold gRL; omega) he2) ⟨by omega, by omega, hgD1 0 (by decide)⟩ (by decide) rfl rfl rfl hl.1 rfl (Nat.le_of_ble_eq_true rfl) ⟨Nat.le_of_ble_eq_true rfl, Nat.le_of_ble_eq_true rfl⟩ ⟨Nat.le_of_ble_eq_true rfl, Nat.le_of_ble_eq_true rfl⟩ dX8_init_30) (fun _ H locs hH => ?_)
  refine lv_pop hC.b.fx.1 hC.b.fx.2.1 dX8_init_33 (gvR_cat _) ?_
  refine lv_aload_n hC.b.fx.1 hC.b.fx.2.1 dX8_init_34 rfl (lv_at hl 0 rfl) ?_
  have hB := hH.2.2
  refine i_new hC hH nk_X8_7 (hgD2 0 (by decide)) ⟨Nat.le_of_ble_eq_true rfl, Nat.le_of_ble_eq_true rfl⟩ dX8_init_35 (fun H hH => ?_)
  refine lv_dup hC.b.fx.1 hC.b.fx.2.1 dX8_init_38 rfl ?_
  refine j_call (n := n + 66) hC hH (k_Desk hl9 (by omega) hgD2 (fun x hx k => hB x (by omega) k)) (fun x hx k => (hB x (by omega) k).2) ck_X8_9 rfl (by omega) hl.1 (Nat.le_of_ble_eq_true rfl) ⟨Nat.le_of_ble_eq_true rfl, Nat.le_of_ble_eq_true rfl⟩ ⟨Nat.le_of_ble_eq_true rfl, Nat.le_of_ble_eq_true rfl⟩ dX8_init_39 (fun H locs hH => ?_)
  refine j_putR (b := n + 66) hC hH rfl fr_X8_26 ⟨h1, by omega, hg0⟩ (gRm_of (a := n) (k := 1) hg0) (by omega) dX8_init_42 (fun H locs hH => ?_)
  have hH := hH.ch (Q := fun x k => (x = n ∧ k < 2) ∨ (n + 1 ≤ x ∧ x ≤ n + 130)) (fun x k => by first | omega | (dsimp only; omega))
  refine lv_aload_n hC.b.fx.1 hC.b.fx.2.1 dX8_init_45 rfl (lv_at hl 0 rfl) ?_
  have hB := hH.2.2
  refine i_new hC hH nk_X8_29 (hgH 0 (by decide)) ⟨Nat.le_of_ble_eq_true rfl, Nat.le_of_ble_eq_true rfl⟩ dX8_init_46 (fun H hH => ?_)
  refine lv_dup hC.b.fx.1 hC.b.fx.2.1 dX8_init_49 rfl ?_
  refine j_call (n := n + 131) hC hH (k_Hist hl9 (by omega) hgH (fun x hx k => hB x (by omega) k)) (fun x hx k => (hB x (by omega) k).2) ck_X8_31 rfl (by omega) hl.1 (Nat.le_of_ble_eq_true rfl) ⟨Nat.le_of_ble_eq_true rfl, Nat.le_of_ble_eq_true rfl⟩ ⟨Nat.le_of_ble_eq_true rfl, Nat.le_of_ble_eq_true rfl⟩ dX8_init_50 (fun H locs hH => ?_)
  refine j_putR (b := n + 131) hC hH rfl fr_X8_32 ⟨h1, by omega, hg0⟩ (gRm_of (a := n) (k := 2) hg0) (by omega) dX8_init_53 (fun H locs hH => ?_)
  have hH := hH.ch (Q := fun x k => (x = n ∧ k < 3) ∨ (n + 1 ≤ x ∧ x ≤ n + 652)) (fun x k => by first | omega | (dsimp only; omega))
  refine lv_aload_n hC.b.fx.1 hC.b.fx.2.1 dX8_init_56 rfl (lv_at hl 0 rfl) ?_
  refine lv_iconst (v := gi (2)) hC.b.fx.1 hC.b.fx.2.1 dX8_init_57 rfl ?_
  refine i_anew (C := RX0) (kd := 6) (L := 2) hC hH cl_X8_7 hC.2.1.2.2 rfl (by decide) hg653 (by decide) ⟨Nat.le_of_ble_eq_true rfl, Nat.le_of_ble_eq_true rfl⟩ dX8_init_58 (fun H hH => ?_)
  refine j_putR (b := n + 653) hC hH rfl fr_X8_36 ⟨h1, by omega, hg0⟩ (gRm_of (a := n) (k := 3) hg0) (by omega) dX8_init_61 (fun H locs hH => ?_)
  have hH := hH.ch (Q := fun x k => (x = n ∧ k < 4) ∨ (n + 1 ≤ x ∧ x ≤ n + 652) ∨ (x = n + 653 ∧ k < 0) ∨ (n + 654 ≤ x ∧ x < n + (654 + 65 * 0))) (fun x k => by first | omega | (dsimp only; omega))
  refine lv_iconst (v := gi (0)) hC.b.fx.1 hC.b.fx.2.1 dX8_init_64 rfl ?_
  refine lv_istore_n (lv' := [(1, .int (gi 0)), (0, .ref (w.1 + n))]) hC.b.fx.1 hC.b.fx.2.1 dX8_init_65 rfl hl (by decide) rfl (fun ls hl => ?_)
  refine lp_face hl9 h1 hg0 hg653 hgS hC (fun H locs ls hH hl => ?_) 2 0 rfl H locs ls hH hl
  have hH := hH.ch (Q := fun x k => (x = n ∧ k < 4) ∨ (n + 1 ≤ x ∧ x ≤ n + 652) ∨ (x = n + 653 ∧ k < 2) ∨ (n + 654 ≤ x ∧ x ≤ n + 783)) (fun x k => by first | omega | (dsimp only; omega))
  refine lv_aload_n hC.b.fx.1 hC.b.fx.2.1 dX8_init_94 rfl (lv_at hl 0 rfl) ?_
  refine lv_iconst (v := gi (2)) hC.b.fx.1 hC.b.fx.2.1 dX8_init_95 rfl ?_
  refine i_newa (ty := .boolean) (kd := 2) (L := 2) hC hH ac_boolean rfl rfl rfl (by decide) hg784 (by decide) (by decide) ⟨Nat.le_of_ble_eq_true rfl, Nat.le_of_ble_eq_true rfl⟩ dX8_init_96 (fun H hH => ?_)
  refine j_putR (b := n + 784) hC hH rfl fr_X8_40 ⟨h1, by omega, hg0⟩ (gRm_of (a := n) (k := 4) hg0) (by omega) dX8_init_98 (fun H locs hH => ?_)
  refine lv_aload_n hC.b.fx.1 hC.b.fx.2.1 dX8_init_101 rfl (lv_at hl 0 rfl) ?_
  have hB := hH.2.2
  refine i_new hC hH nk_X8_44 (hgR 0 (by decide)) ⟨Nat.le_of_ble_eq_true rfl, Nat.le_of_ble_eq_true rfl⟩ dX8_init_102 (fun H hH => ?_)
  refine lv_dup hC.b.fx.1 hC.b.fx.2.1 dX8_init_105 rfl ?_
  refine j_call (n := n + 785) hC hH (k_Reader hl9 (by omega) hgR (fun x hx k => hB x (by omega) k)) (fun x hx k => by rw [gup_ne (by omega)]; exact (hB x (by omega) k).2) ck_X8_46 rfl (by omega) hl.1 (Nat.le_of_ble_eq_true rfl) ⟨Nat.le_of_ble_eq_true rfl, Nat.le_of_ble_eq_true rfl⟩ ⟨Nat.le_of_ble_eq_true rfl, Nat.le_of_ble_eq_true rfl⟩ dX8_init_106 (fun H locs hH => ?_)
  refine j_putR (b := n + 785) hC hH rfl fr_X8_47 ⟨h1, by omega, hg0⟩ (gRm_of (a := n) (k := 5) hg0) (by omega) dX8_init_109 (fun H locs hH => ?_)
  refine lv_aload_n hC.b.fx.1 hC.b.fx.2.1 dX8_init_112 rfl (lv_at hl 0 rfl) ?_
  have hB := hH.2.2
  refine i_new hC hH nk_X8_51 (hgW 0 (by decide)) ⟨Nat.le_of_ble_eq_true rfl, Nat.le_of_ble_eq_true rfl⟩ dX8_init_113 (fun H hH => ?_)
  refine lv_dup hC.b.fx.1 hC.b.fx.2.1 dX8_init_116 rfl ?_
  refine j_call (n := n + 852) hC hH (k_Writer hl9 (by omega) hgW (fun x hx k => hB x (by omega) k)) (fun x hx k => (hB x (by omega) k).2) ck_X8_53 rfl (by omega) hl.1 (Nat.le_of_ble_eq_true rfl) ⟨Nat.le_of_ble_eq_true rfl, Nat.le_of_ble_eq_true rfl⟩ ⟨Nat.le_of_ble_eq_true rfl, Nat.le_of_ble_eq_true rfl⟩ dX8_init_117 (fun H locs hH => ?_)
  refine j_putR (b := n + 852) hC hH rfl fr_X8_54 ⟨h1, by omega, hg0⟩ (gRm_of (a := n) (k := 6) hg0) (by omega) dX8_init_120 (fun H locs hH => ?_)
  have hH := hH.ch (Q := fun x k => (x = n ∧ k < 7) ∨ (n + 1 ≤ x ∧ x ≤ n + 652) ∨ (x = n + 653 ∧ k < 2) ∨ (n + 654 ≤ x ∧ x ≤ n + 783) ∨ (n + 785 ≤ x ∧ x ≤ n + 853)) (fun x k => by first | omega | (dsimp only; omega))
  refine i_ret hC hH (gset_fin (P := fun x k => (x = n ∧ k < 7) ∨ (n + 1 ≤ x ∧ x ≤ n + 652) ∨ (x = n + 653 ∧ k < 2) ∨ (n + 654 ≤ x ∧ x ≤ n + 783) ∨ (n + 785 ≤ x ∧ x ≤ n + 853)) (fun x hx k => (hz x hx k).1) (fun x k h => ?_) (fun j k hj hn => ?_)) rfl ⟨Nat.le_of_ble_eq_true rfl, Nat.le_of_ble_eq_true rfl⟩ rfl dX8_init_123
  · first | omega | (dsimp only at h; omega)
  · try dsimp only at hn
    by_cases c0 : j = 0
    · subst c0
      rw [show gsh (n + 0) = 8 from hg0]
      exact gch_big (by show 7 ≤ k; omega)
    · by_cases c1 : j = 653
      · subst c1
        rw [hg653]
        exact gch_big (by show 2 ≤ k; omega)
      · by_cases c2 : j = 784
        · subst c2
          rw [hg784]
          exact gch_big (Nat.zero_le _)
        · exact absurd (by omega) hn
set_option maxHeartbeats 8000000 in
set_option maxRecDepth 100000 in
theorem k_Model {w : gW} {l : Launch} (hl9 : l.stackTraces = false) {n : Nat} {Rm : Nat → Nat → Nat} {M M2 M5 M6 : gMem} (h1 : 1 ≤ n) (hg : gPat lModel n) (hz : ∀ x, n ≤ x → ∀ k, Rm x k = 0 ∧ M x k = 0) (hb : fX9_begins (fun x => if n ≤ x ∧ x < n + lModel.length then gsh x else 0) n (gup M n 16 (-1)) = some M2) (hs1 : fX9_sets (fun x => if n ≤ x ∧ x < n + lModel.length then gsh x else 0) n 0 4 3 (gup (gup M2 (n + 1) 0 1) (n + 1) 1 1) = some M5) (hs2 : fX9_sets (fun x => if n ≤ x ∧ x < n + lModel.length then gsh x else 0) n 0 10 97 M5 = some M6)
    (hz2 : ∀ x, n + 8 < x → ∀ k, M2 x k = 0) (hz5 : ∀ x, n + 8 < x → ∀ k, M5 x k = 0) (hz6 : ∀ x, n + 8 < x → ∀ k, M6 x k = 0) : gIT w l yX9_init cX9_init 1 2 90 8 18472 n Rm M (gset (fun x _ => n ≤ x ∧ x ≤ n + 8) Rm) M6 := by
  refine gIT.of hl9 (by decide +kernel) (by decide) rfl (fun x hx k => hz x (by omega) k) ?_
  intro p e s m below meth c hC hH ls hl
  have hC : gIC w p l s m [Value.ref (w.1 + n)].toArray meth c cX9_init 1 RX9 n := hC
  have hl : lv_has ls 1 [(0, .ref (w.1 + n))] := hl
  have hH : gIH w n (gset (fun x _ => x < 0) Rm) M s s.heap [] := by rw [gset_no (fun x _ h => absurd h (by omega))]; exact hH
  refine lv_aload_n hC.b.fx.1 hC.b.fx.2.1 dX9_init_0 rfl (lv_at hl 0 rfl) ?_
  refine i_obj hC ob_X9 hl.1 ⟨Nat.le_of_ble_eq_true rfl, Nat.le_of_ble_eq_true rfl⟩ (Nat.le_of_ble_eq_true rfl) dX9_init_1 ?_
  refine lv_aload_n hC.b.fx.1 hC.b.fx.2.1 dX9_init_4 rfl (lv_at hl 0 rfl) ?_
  refine lv_sipush (v := gi (1190)) hC.b.fx.1 hC.b.fx.2.1 dX9_init_5 (by decide) ?_
  refine i_newa (ty := .int) (kd := 0) (L := 1190) hC hH ac_int rfl rfl rfl (by decide) (hg 1 (by decide)) (by decide) (by decide) ⟨Nat.le_of_ble_eq_true rfl, Nat.le_of_ble_eq_true rfl⟩ dX9_init_8 (fun H hH => ?_)
  refine j_putR (b := n + 1) hC hH rfl fr_X9_7 ⟨h1, by omega, hg 0 (by decide)⟩ (gRm_of (a := n) (k := 0) (hg 0 (by decide) : gsh (n + 0) = 9)) (by omega) dX9_init_10 (fun H locs hH => ?_)
  refine lv_aload_n hC.b.fx.1 hC.b.fx.2.1 dX9_init_13 rfl (lv_at hl 0 rfl) ?_
  refine lv_sipush (v := gi (1190)) hC.b.fx.1 hC.b.fx.2.1 dX9_init_14 (by decide) ?_
  refine i_newa (ty := .int) (kd := 0) (L := 1190) hC hH ac_int rfl rfl rfl (by decide) (hg 2 (by decide)) (by decide) (by decide) ⟨Nat.le_of_ble_eq_true rfl, Nat.le_of_ble_eq_true rfl⟩ dX9_init_17 (fun H hH => ?_)
  refine j_putR (b := n + 2) hC hH rfl fr_X9_13 ⟨h1, by omega, hg 0 (by decide)⟩ (gRm_of (a := n) (k := 1) (hg 0 (by decide) : gsh (n + 0) = 9)) (by omega) dX9_init_19 (fun H locs hH => ?_)
  refine lv_aload_n hC.b.fx.1 hC.b.fx.2.1 dX9_init_22 rfl (lv_at hl 0 rfl) ?_
  refine lv_sipush (v := gi (1190)) hC.b.fx.1 hC.b.fx.2.1 dX9_init_23 (by decide) ?_
  refine i_newa (ty := .int) (kd := 0) (L := 1190) hC hH ac_int rfl rfl rfl (by decide) (hg 3 (by decide)) (by decide) (by decide) ⟨Nat.le_of_ble_eq_true rfl, Nat.le_of_ble_eq_true rfl⟩ dX9_init_26 (fun H hH => ?_)
  refine j_putR (b := n + 3) hC hH rfl fr_X9_16 ⟨h1, by omega, hg 0 (by decide)⟩ (gRm_of (a := n) (k := 2) (hg 0 (by decide) : gsh (n + 0) = 9)) (by omega) dX9_init_28 (fun H locs hH => ?_)
  refine lv_aload_n hC.b.fx.1 hC.b.fx.2.1 dX9_init_31 rfl (lv_at hl 0 rfl) ?_
  refine lv_sipush (v := gi (9520)) hC.b.fx.1 hC.b.fx.2.1 dX9_init_32 (by decide) ?_
  refine i_newa (ty := .int) (kd := 0) (L := 9520) hC hH ac_int rfl rfl rfl (by decide) (hg 4 (by decide)) (by decide) (by decide) ⟨Nat.le_of_ble_eq_true rfl, Nat.le_of_ble_eq_true rfl⟩ dX9_init_35 (fun H hH => ?_)
  refine j_putR (b := n + 4) hC hH rfl fr_X9_19 ⟨h1, by omega, hg 0 (by decide)⟩ (gRm_of (a := n) (k := 3) (hg 0 (by decide) : gsh (n + 0) = 9)) (by omega) dX9_init_37 (fun H locs hH => ?_)
  refine lv_aload_n hC.b.fx.1 hC.b.fx.2.1 dX9_init_40 rfl (lv_at hl 0 rfl) ?_
  refine lv_sipush (v := gi (2380)) hC.b.fx.1 hC.b.fx.2.1 dX9_init_41 (by decide) ?_
  refine i_newa (ty := .int) (kd := 0) (L := 2380) hC hH ac_int rfl rfl rfl (by decide) (hg 5 (by decide)) (by decide) (by decide) ⟨Nat.le_of_ble_eq_true rfl, Nat.le_of_ble_eq_true rfl⟩ dX9_init_44 (fun H hH => ?_)
  refine j_putR (b := n + 5) hC hH rfl fr_X9_22 ⟨h1, by omega, hg 0 (by decide)⟩ (gRm_of (a := n) (k := 4) (hg 0 (by decide) : gsh (n + 0) = 9)) (by omega) dX9_init_46 (fun H locs hH => ?_)
  refine lv_aload_n hC.b.fx.1 hC.b.fx.2.1 dX9_init_49 rfl (lv_at hl 0 rfl) ?_
  refine lv_iconst (v := gi (2)) hC.b.fx.1 hC.b.fx.2.1 dX9_init_50 rfl ?_
  refine i_newa (ty := .boolean) (kd := 2) (L := 2) hC hH ac_boolean rfl rfl rfl (by decide) (hg 6 (by decide)) (by decide) (by decide) ⟨Nat.le_of_ble_eq_true rfl, Nat.le_of_ble_eq_true rfl⟩ dX9_init_51 (fun H hH => ?_)
  refine j_putR (b := n + 6) hC hH rfl fr_X9_25 ⟨h1, by omega, hg 0 (by decide)⟩ (gRm_of (a := n) (k := 5) (hg 0 (by decide) : gsh (n + 0) = 9)) (by omega) dX9_init_53 (fun H locs hH => ?_)
  refine lv_aload_n hC.b.fx.1 hC.b.fx.2.1 dX9_init_56 rfl (lv_at hl 0 rfl) ?_
  refine lv_sipush (v := gi (600)) hC.b.fx.1 hC.b.fx.2.1 dX9_init_57 (by decide) ?_
  refine i_newa (ty := .int) (kd := 0) (L := 600) hC hH ac_int rfl rfl rfl (by decide) (hg 7 (by decide)) (by decide) (by decide) ⟨Nat.le_of_ble_eq_true rfl, Nat.le_of_ble_eq_true rfl⟩ dX9_init_60 (fun H hH => ?_)
  refine j_putR (b := n + 7) hC hH rfl fr_X9_29 ⟨h1, by omega, hg 0 (by decide)⟩ (gRm_of (a := n) (k := 8) (hg 0 (by decide) : gsh (n + 0) = 9)) (by omega) dX9_init_62 (fun H locs hH => ?_)
  refine lv_aload_n hC.b.fx.1 hC.b.fx.2.1 dX9_init_65 rfl (lv_at hl 0 rfl) ?_
  refine lv_iconst (v := gi (-1)) hC.b.fx.1 hC.b.fx.2.1 dX9_init_66 rfl ?_
  refine j_putI hC hH rfl fp_X9_32 ⟨h1, by omega, hg 0 (by decide)⟩ (gcR (k := -1) (by decide)) dX9_init_67 (fun H locs hH => ?_)
  refine lv_aload_n hC.b.fx.1 hC.b.fx.2.1 dX9_init_70 rfl (lv_at hl 0 rfl) ?_
  refine lv_sipush (v := gi (2400)) hC.b.fx.1 hC.b.fx.2.1 dX9_init_71 (by decide) ?_
  refine i_newa (ty := .int) (kd := 0) (L := 2400) hC hH ac_int rfl rfl rfl (by decide) (hg 8 (by decide)) (by decide) (by decide) ⟨Nat.le_of_ble_eq_true rfl, Nat.le_of_ble_eq_true rfl⟩ dX9_init_74 (fun H hH => ?_)
  refine j_putR (b := n + 8) hC hH rfl fr_X9_36 ⟨h1, by omega, hg 0 (by decide)⟩ (gRm_of (a := n) (k := 18) (hg 0 (by decide) : gsh (n + 0) = 9)) (by omega) dX9_init_76 (fun H locs hH => ?_)
  have hH := hH.ch (Q := fun x k => x = n ∧ (k < 6 ∨ k = 8 ∨ k = 18)) (fun x k => by first | omega | (dsimp only; omega))
  have hLC : gLC (fun x => if n ≤ x ∧ x < n + lModel.length then gsh x else 0) (n + 8) (gset (fun x k => x = n ∧ (k < 6 ∨ k = 8 ∨ k = 18)) Rm) := gLC_part (K := 20) (d := n) hg (by omega) (by decide +kernel) (fun x h2 h3 k q hq => gset_at (P := fun x k => x = n ∧ (k < 6 ∨ k = 8 ∨ k = 18)) (by
    have h4 : x < n + 9 := h3
    obtain ⟨j, rfl⟩ : ∃ j, x = n + j := ⟨x - n, by omega⟩
    rw [hg j (by show j < 9; omega)] at hq
    have h5 := (by decide +kernel : ∀ j, j < 9 → ∀ k, k < 20 → (gch (lModel.getD j 0) k).isSome = true → j = 0 ∧ (k < 6 ∨ k = 8 ∨ k = 18)) j (by omega) k (Nat.lt_of_lt_of_le (gch_wd hq) ((by decide +kernel : ∀ j, j < 9 → (gcl (lModel.getD j 0)).length ≤ 20) j (by omega))) (by rw [hq]; rfl)
    first | omega | (dsimp only; omega)))
  have hgd : (fun x => if n ≤ x ∧ x < n + lModel.length then gsh x else 0) n = 9 := by
    show (if n ≤ n ∧ n < n + 9 then gsh n else 0) = 9
    rw [if_pos ⟨by omega, by omega⟩]
    exact hg 0 (by decide)
  refine lv_aload_n hC.b.fx.1 hC.b.fx.2.1 dX9_init_79 rfl (lv_at hl 0 rfl) ?_
  refine i_go (v := none) (M' := M2) hC hH rfl (fun x hx k => ⟨(hH.2.2 x hx k).1, hz2 x (by omega) k⟩) rfl (r_runV (As := []) (b := n) hC.b hH.1 cv_X9_39 (mX9_begins hLC hl9 hgd hb) ⟨by omega, by omega, hg 0 (by decide)⟩ (by decide) rfl rfl rfl hl.1 rfl (Nat.le_of_ble_eq_true rfl) ⟨Nat.le_of_ble_eq_true rfl, Nat.le_of_ble_eq_true rfl⟩ ⟨Nat.le_of_ble_eq_true rfl, Nat.le_of_ble_eq_true rfl⟩ dX9_init_80) (fun _ H locs hH => ?_)
  refine lv_aload_n hC.b.fx.1 hC.b.fx.2.1 dX9_init_83 rfl (lv_at hl 0 rfl) ?_
  refine i_getR (b := n + 1) hC.b hH fl_X9_7 ⟨h1, by omega, hg 0 (by decide)⟩ (by rw [gset_at (by first | omega | (dsimp only; omega))]; exact gRm_of (a := n) (k := 0) (hg 0 (by decide) : gsh (n + 0) = 9)) (by omega) dX9_init_84 ?_
  refine lv_iconst (v := gi (0)) hC.b.fx.1 hC.b.fx.2.1 dX9_init_87 rfl ?_
  refine lv_iconst (v := gi (1)) hC.b.fx.1 hC.b.fx.2.1 dX9_init_88 rfl ?_
  refine j_iast (t := 19056) hC hH rfl ⟨by omega, by omega, hg 1 (by decide)⟩ ⟨by decide, by decide⟩ (gcR (k := 0) (by decide)) ⟨by decide, by decide⟩ (gcR (k := 1) (by decide)) dX9_init_89 (fun H locs hH => ?_)
  refine lv_aload_n hC.b.fx.1 hC.b.fx.2.1 dX9_init_90 rfl (lv_at hl 0 rfl) ?_
  refine i_getR (b := n + 1) hC.b hH fl_X9_7 ⟨h1, by omega, hg 0 (by decide)⟩ (by rw [gset_at (by first | omega | (dsimp only; omega))]; exact gRm_of (a := n) (k := 0) (hg 0 (by decide) : gsh (n + 0) = 9)) (by omega) dX9_init_91 ?_
  refine lv_iconst (v := gi (1)) hC.b.fx.1 hC.b.fx.2.1 dX9_init_94 rfl ?_
  refine lv_iconst (v := gi (1)) hC.b.fx.1 hC.b.fx.2.1 dX9_init_95 rfl ?_
  refine j_iast (t := 19056) hC hH rfl ⟨by omega, by omega, hg 1 (by decide)⟩ ⟨by decide, by decide⟩ (gcR (k := 1) (by decide)) ⟨by decide, by decide⟩ (gcR (k := 1) (by decide)) dX9_init_96 (fun H locs hH => ?_)
  refine lv_aload_n hC.b.fx.1 hC.b.fx.2.1 dX9_init_97 rfl (lv_at hl 0 rfl) ?_
  refine lv_iconst (v := gi (0)) hC.b.fx.1 hC.b.fx.2.1 dX9_init_98 rfl ?_
  refine lv_iconst (v := gi (4)) hC.b.fx.1 hC.b.fx.2.1 dX9_init_99 rfl ?_
  refine lv_iconst (v := gi (3)) hC.b.fx.1 hC.b.fx.2.1 dX9_init_100 rfl ?_
  refine i_go (v := none) (M' := M5) hC hH rfl (fun x hx k => ⟨(hH.2.2 x hx k).1, hz5 x (by omega) k⟩) rfl (r_runV (As := [.int (gi 0), .int (gi 4), .int (gi 3)]) (b := n) hC.b hH.1 cv_X9_42 (mX9_sets hLC hl9 hgd (gcR (k := 0) (by decide)) (gcR (k := 4) (by decide)) (gcR (k := 3) (by decide)) hs1) ⟨by omega, by omega, hg 0 (by decide)⟩ (by decide) rfl rfl rfl hl.1 rfl (Nat.le_of_ble_eq_true rfl) ⟨Nat.le_of_ble_eq_true rfl, Nat.le_of_ble_eq_true rfl⟩ ⟨Nat.le_of_ble_eq_true rfl, Nat.le_of_ble_eq_true rfl⟩ dX9_init_101) (fun _ H locs hH => ?_)
  refine lv_aload_n hC.b.fx.1 hC.b.fx.2.1 dX9_init_104 rfl (lv_at hl 0 rfl) ?_
  refine lv_iconst (v := gi (0)) hC.b.fx.1 hC.b.fx.2.1 dX9_init_105 rfl ?_
  refine lv_bipush (v := gi (10)) hC.b.fx.1 hC.b.fx.2.1 dX9_init_106 (by decide) ?_
  refine lv_bipush (v := gi (97)) hC.b.fx.1 hC.b.fx.2.1 dX9_init_108 (by decide) ?_
  refine i_go (v := none) (M' := M6) hC hH rfl (fun x hx k => ⟨(hH.2.2 x hx k).1, hz6 x (by omega) k⟩) rfl (r_runV (As := [.int (gi 0), .int (gi 10), .int (gi 97)]) (b := n) hC.b hH.1 cv_X9_42 (mX9_sets hLC hl9 hgd (gcR (k := 0) (by decide)) (gcR (k := 10) (by decide)) (gcR (k := 97) (by decide)) hs2) ⟨by omega, by omega, hg 0 (by decide)⟩ (by decide) rfl rfl rfl hl.1 rfl (Nat.le_of_ble_eq_true rfl) ⟨Nat.le_of_ble_eq_true rfl, Nat.le_of_ble_eq_true rfl⟩ ⟨Nat.le_of_ble_eq_true rfl, Nat.le_of_ble_eq_true rfl⟩ dX9_init_110) (fun _ H locs hH => ?_)
  refine i_ret hC hH (gset_fin (P := fun x k => x = n ∧ (k < 6 ∨ k = 8 ∨ k = 18)) (fun x hx k => (hz x hx k).1) (fun x k h => ?_) (fun j k hj hn => ?_)) rfl ⟨Nat.le_of_ble_eq_true rfl, Nat.le_of_ble_eq_true rfl⟩ rfl dX9_init_113
  · first | omega | (dsimp only at h; omega)
  · try dsimp only at hn
    rw [hg j (by show j < 9; omega)]
    rcases Nat.lt_or_ge k 20 with h20 | h20
    · have h5 := (by decide +kernel : ∀ j, j < 9 → ∀ k, k < 20 → (gch (lModel.getD j 0) k) = none ∨ (j = 0 ∧ (k < 6 ∨ k = 8 ∨ k = 18))) j (by omega) k h20
      rcases h5 with h5 | h5
      · exact h5
      · exact absurd (by omega) hn
    · exact gch_big (Nat.le_trans ((by decide +kernel : ∀ j, j < 9 → (gcl (lModel.getD j 0)).length ≤ 20) j (by omega)) h20)
