/-! The start: the world before anything is made -/
theorem st_arr {s : State} {args : Array Value} {ty : FieldType} (h : (Cond.arrayClass ty).before args s = true) (hty : ty = .int ∨ ty = .byte ∨ ty = .boolean ∨ ty = .long) : ∃ cA, ArrOfT s cA ty ∧ va_RA s cA ty := by
  obtain ⟨cA, kA, comp, h1, h2, h3⟩ := Cond.arrayClass_spec h
  refine ⟨cA, fun n z => ⟨(fun k h => by cases h), kA, h2, comp, h3⟩, ?_⟩
  rcases hty with rfl | rfl | rfl | rfl <;> exact h1
theorem st_arrO {s : State} {C : String} (h : va_AO C s) : ∃ cA, ArrOfT s cA (.object C) ∧ va_RA s cA (.object C) := by
  obtain ⟨comp, cA, kA, h1, h2, h3, h4, h5⟩ := Cond.arrayOver_spec h
  exact ⟨cA, fun n z => ⟨(fun k h => by cases h), kA, h3, comp, h4⟩, kA, comp, h3, h4, h1, h5⟩
theorem st_world {s : State} {args : Array Value} (hts : ∀ x ∈ lw_tbl, x.before args s = true) (hg : (Jvm.Cond.and given_1 narrow_1).before args s = true) (hz : 1 ≤ s.heap.size) : ∃ w : gW, s.heap.size = w.1 + 1 ∧ gKF w s ∧ gFix w s s.heap ∧ gNC s ∧ gAO s := by
  have hF : ∀ c ∈ stF, c.before args s = true := flat_of_before _ hg
  have ok : ∀ x ∈ gG, x.before args s = true := fun x hx => hts x (List.mem_filter.mp hx).1
  have tb : ∀ {x : Cond} (i : Nat), lw_tbl[i]? = some x → x.before args s = true := fun i h => hts _ (List.mem_of_getElem? h)
  have lf : ∀ {x : Cond} (i : Nat), stF[i]? = some x → x.before args s = true := fun i h => hF _ (List.mem_of_getElem? h)
  obtain ⟨c0, i0, k0⟩ := u_known (C := RX0) (T := TX0) (N := 9) (n := 9) ok gu_X0 (tb 123 (by decide +kernel))
  obtain ⟨c1, i1, k1⟩ := u_known (C := RX1) (T := TX1) (N := 3) (n := 3) ok gu_X1 (tb 327 (by decide +kernel))
  obtain ⟨c2, i2, k2⟩ := u_known (C := RX2) (T := TX2) (N := 5) (n := 5) ok gu_X2 (tb 133 (by decide +kernel))
  obtain ⟨c3, i3, k3⟩ := u_known (C := RX3) (T := TX3) (N := 6) (n := 6) ok gu_X3 (tb 236 (by decide +kernel))
  obtain ⟨c4, i4, k4⟩ := u_known (C := RX4) (T := TX4) (N := 15) (n := 15) ok gu_X4 (tb 156 (by decide +kernel))
  obtain ⟨c5, i5, k5⟩ := u_known (C := RX5) (T := TX5) (N := 11) (n := 11) ok gu_X5 (tb 347 (by decide +kernel))
  obtain ⟨c6, i6, k6⟩ := u_known (C := RX7) (T := TX7) (N := 2) (n := 2) ok gu_X7 (tb 395 (by decide +kernel))
  obtain ⟨c7, i7, k7⟩ := u_known (C := RX8) (T := TX8) (N := 7) (n := 7) ok gu_X8 (tb 115 (by decide +kernel))
  obtain ⟨c8, i8, k8⟩ := u_known (C := RX9) (T := TX9) (N := 20) (n := 20) ok gu_X9 (tb 1203 (by decide +kernel))
  have o4 : va_AO RX4 s := va_AO.of (tb 129 (by decide +kernel))
  have o5 : va_AO RX3 s := va_AO.of (tb 131 (by decide +kernel))
  have o6 : va_AO RX0 s := va_AO.of (tb 333 (by decide +kernel))
  obtain ⟨a0, r0⟩ := st_arr (ok _ ac_int) (Or.inl rfl)
  obtain ⟨a1, r1⟩ := st_arr (ok _ ac_byte) (Or.inr (Or.inl rfl))
  obtain ⟨a2, r2⟩ := st_arr (ok _ ac_boolean) (Or.inr (Or.inr (Or.inl rfl)))
  obtain ⟨a3, r3⟩ := st_arr (ty := .long) (tb 1717 (by decide +kernel)) (Or.inr (Or.inr (Or.inr rfl)))
  obtain ⟨a4, r4⟩ := st_arrO o4
  obtain ⟨a5, r5⟩ := st_arrO o5
  obtain ⟨a6, r6⟩ := st_arrO o6
  have hA : ∀ a : Nat, a < s.heap.size → ¬ s.heap.size - 1 < a := fun a h => by omega
  obtain ⟨aK, aV, hK⟩ := st_str (A := fun q => s.heap.size - 1 < q) hF hA
  refine ⟨(s.heap.size - 1, fun k => [c0, c1, c2, c3, c4, c5, c6, c7, c8].getD k c0, fun k => [i0, i1, i2, i3, i4, i5, i6, i7, i8].getD k i0, fun k => [a0, a1, a2, a3, a4, a5, a6].getD k a0, aK, aV), by show _ = s.heap.size - 1 + 1; omega, ⟨⟨fun k q hq => ?_, fun k q hq => ?_⟩, fun x hx => va_Nw.of (gNw_on (List.mem_filter.mp hx).2) (hts x (List.mem_filter.mp hx).1), fun i q hq => ?_⟩, ⟨?_, ?_, fun i hi => ?_, ?_, ?_⟩, ⟨?_, ?_⟩, o4, o5, o6⟩
  · match k, hq with
    | 0, hq => cases hq; exact k0
    | 1, hq => cases hq; exact k1
    | 2, hq => cases hq; exact k2
    | 3, hq => cases hq; exact k3
    | 4, hq => cases hq; exact k4
    | 5, hq => cases hq; exact k5
    | 6, hq => cases hq; exact k6
    | 7, hq => cases hq; exact k7
    | 8, hq => cases hq; exact k8
    | k + 9, hq => cases hq
  · match k, hq with
    | 0, hq => cases hq; exact r0
    | 1, hq => cases hq; exact r1
    | 2, hq => cases hq; exact r2
    | 3, hq => cases hq; exact r3
    | 4, hq => cases hq; exact r4
    | 5, hq => cases hq; exact r5
    | 6, hq => cases hq; exact r6
    | k + 7, hq => cases hq
  · have hi : i < 61 := by rw [← gSL_len]; exact (List.getElem?_eq_some_iff.mp hq).1
    have h1 := (hK i hi).1
    have h2 := List.all_eq_true.mp st_ref q (List.mem_of_getElem? hq)
    have e : gSL.getD i ("", 0, "") = q := by rw [List.getD_eq_getElem?_getD, hq]; rfl
    unfold stS at h1
    rw [e] at h1
    exact vk_R.of (hts _ (of_decide_eq_true h2)) h1
  · exact vx_Zqof (tb 873 (by decide +kernel)) (tb 101 (by decide +kernel)) (lf 9 (by decide +kernel)) hA
  · exact vx_Zqof (tb 875 (by decide +kernel)) (tb 101 (by decide +kernel)) (lf 10 (by decide +kernel)) hA
  · rcases Nat.lt_or_ge i 61 with h | h
    · exact (hK i h).2 hi
    · exact absurd (gtx_out h) hi
  · exact va_Zof (tb 468 (by decide +kernel)) (tb 106 (by decide +kernel)) (va_eqt (lf 4 (by decide +kernel))) hA
  · exact vx_Zqof (tb 484 (by decide +kernel)) (tb 108 (by decide +kernel)) (lf 5 (by decide +kernel)) hA
  · exact va_Nc.of (lf 43 (by decide +kernel))
  · exact va_Nc.of (lf 42 (by decide +kernel))
