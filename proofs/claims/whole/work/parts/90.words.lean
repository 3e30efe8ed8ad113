/-! Words of the constructors -/
theorem gk_272 : Cond.fieldLink RX0 11 "StackDesk$Desk" "procs" "[LStackDesk$Proc;" ∈ gG := gG_in 272 (by decide +kernel) (by decide +kernel)
theorem fr_X0_11 : gFR RX0 11 1 0 := ⟨RX0, TX0, 9, tyX0, .array (.object "StackDesk$Proc"), rfl, by decide, by decide, by decide, gk_272, gu_X0, rfl, tyX0_ok, nmX0, rfl, rfl, by decide +kernel, fun _ => rfl, fun _ => rfl⟩
theorem gk_273 : Cond.fieldLink RX0 19 "StackDesk$Desk" "piles" "[LStackDesk$Pile;" ∈ gG := gG_in 273 (by decide +kernel) (by decide +kernel)
theorem fr_X0_19 : gFR RX0 19 1 1 := ⟨RX0, TX0, 9, tyX0, .array (.object "StackDesk$Pile"), rfl, by decide, by decide, by decide, gk_273, gu_X0, rfl, tyX0_ok, nmX0, rfl, rfl, by decide +kernel, fun _ => rfl, fun _ => rfl⟩
theorem gk_274 : Cond.fieldLink RX0 23 "StackDesk$Desk" "lying" "[I" ∈ gG := gG_in 274 (by decide +kernel) (by decide +kernel)
theorem fr_X0_23 : gFR RX0 23 1 2 := ⟨RX0, TX0, 9, tyX0, .array (.int), rfl, by decide, by decide, by decide, gk_274, gu_X0, rfl, tyX0_ok, nmX0, rfl, rfl, by decide +kernel, fun _ => rfl, fun _ => rfl⟩
theorem gk_275 : Cond.fieldLink RX0 30 "StackDesk$Desk" "log" "LStackDesk$Log;" ∈ gG := gG_in 275 (by decide +kernel) (by decide +kernel)
theorem fr_X0_30 : gFR RX0 30 1 3 := ⟨RX0, TX0, 9, tyX0, .object "StackDesk$Log", rfl, by decide, by decide, by decide, gk_275, gu_X0, rfl, tyX0_ok, nmX0, rfl, rfl, by decide +kernel, fun _ => rfl, fun _ => rfl⟩
theorem gk_335 : Cond.fieldLink RX1 11 "StackDesk$History" "desks" "[LStackDesk$Desk;" ∈ gG := gG_in 335 (by decide +kernel) (by decide +kernel)
theorem fr_X1_11 : gFR RX1 11 2 0 := ⟨RX1, TX1, 3, tyX1, .array (.object "StackDesk$Desk"), rfl, by decide, by decide, by decide, gk_335, gu_X1, rfl, tyX1_ok, nmX1, rfl, rfl, by decide +kernel, fun _ => rfl, fun _ => rfl⟩
theorem gk_138 : Cond.fieldLink RX2 9 "StackDesk$Log" "turns" "[I" ∈ gG := gG_in 138 (by decide +kernel) (by decide +kernel)
theorem fr_X2_9 : gFR RX2 9 3 0 := ⟨RX2, TX2, 5, tyX2, .array (.int), rfl, by decide, by decide, by decide, gk_138, gu_X2, rfl, tyX2_ok, nmX2, rfl, rfl, by decide +kernel, fun _ => rfl, fun _ => rfl⟩
theorem gk_139 : Cond.fieldLink RX2 15 "StackDesk$Log" "processes" "[I" ∈ gG := gG_in 139 (by decide +kernel) (by decide +kernel)
theorem fr_X2_15 : gFR RX2 15 3 1 := ⟨RX2, TX2, 5, tyX2, .array (.int), rfl, by decide, by decide, by decide, gk_139, gu_X2, rfl, tyX2_ok, nmX2, rfl, rfl, by decide +kernel, fun _ => rfl, fun _ => rfl⟩
theorem gk_140 : Cond.fieldLink RX2 18 "StackDesk$Log" "commands" "[I" ∈ gG := gG_in 140 (by decide +kernel) (by decide +kernel)
theorem fr_X2_18 : gFR RX2 18 3 2 := ⟨RX2, TX2, 5, tyX2, .array (.int), rfl, by decide, by decide, by decide, gk_140, gu_X2, rfl, tyX2_ok, nmX2, rfl, rfl, by decide +kernel, fun _ => rfl, fun _ => rfl⟩
theorem gk_141 : Cond.fieldLink RX2 21 "StackDesk$Log" "results" "[I" ∈ gG := gG_in 141 (by decide +kernel) (by decide +kernel)
theorem fr_X2_21 : gFR RX2 21 3 3 := ⟨RX2, TX2, 5, tyX2, .array (.int), rfl, by decide, by decide, by decide, gk_141, gu_X2, rfl, tyX2_ok, nmX2, rfl, rfl, by decide +kernel, fun _ => rfl, fun _ => rfl⟩
theorem gk_241 : Cond.fieldLink RX3 9 "StackDesk$Pile" "numbers" "[I" ∈ gG := gG_in 241 (by decide +kernel) (by decide +kernel)
theorem fr_X3_9 : gFR RX3 9 4 0 := ⟨RX3, TX3, 6, tyX3, .array (.int), rfl, by decide, by decide, by decide, gk_241, gu_X3, rfl, tyX3_ok, nmX3, rfl, rfl, by decide +kernel, fun _ => rfl, fun _ => rfl⟩
theorem gk_161 : Cond.fieldLink RX4 9 "StackDesk$Proc" "kinds" "[I" ∈ gG := gG_in 161 (by decide +kernel) (by decide +kernel)
theorem fr_X4_9 : gFR RX4 9 5 0 := ⟨RX4, TX4, 15, tyX4, .array (.int), rfl, by decide, by decide, by decide, gk_161, gu_X4, rfl, tyX4_ok, nmX4, rfl, rfl, by decide +kernel, fun _ => rfl, fun _ => rfl⟩
theorem gk_162 : Cond.fieldLink RX4 15 "StackDesk$Proc" "operands" "[I" ∈ gG := gG_in 162 (by decide +kernel) (by decide +kernel)
theorem fr_X4_15 : gFR RX4 15 5 1 := ⟨RX4, TX4, 15, tyX4, .array (.int), rfl, by decide, by decide, by decide, gk_162, gu_X4, rfl, tyX4_ok, nmX4, rfl, rfl, by decide +kernel, fun _ => rfl, fun _ => rfl⟩
theorem gk_163 : Cond.fieldLink RX4 18 "StackDesk$Proc" "sayings" "[I" ∈ gG := gG_in 163 (by decide +kernel) (by decide +kernel)
theorem fr_X4_18 : gFR RX4 18 5 2 := ⟨RX4, TX4, 15, tyX4, .array (.int), rfl, by decide, by decide, by decide, gk_163, gu_X4, rfl, tyX4_ok, nmX4, rfl, rfl, by decide +kernel, fun _ => rfl, fun _ => rfl⟩
theorem gk_354 : Cond.fieldLink RX5 9 "StackDesk$Reader" "text" "[B" ∈ gG := gG_in 354 (by decide +kernel) (by decide +kernel)
theorem fr_X5_9 : gFR RX5 9 6 0 := ⟨RX5, TX5, 11, tyX5, .array (.byte), rfl, by decide, by decide, by decide, gk_354, gu_X5, rfl, tyX5_ok, nmX5, rfl, rfl, by decide +kernel, fun _ => rfl, fun _ => rfl⟩
theorem gk_355 : Cond.fieldLink RX5 18 "StackDesk$Reader" "desk" "LStackDesk$Desk;" ∈ gG := gG_in 355 (by decide +kernel) (by decide +kernel)
theorem fr_X5_18 : gFR RX5 18 6 1 := ⟨RX5, TX5, 11, tyX5, .object "StackDesk$Desk", rfl, by decide, by decide, by decide, gk_355, gu_X5, rfl, tyX5_ok, nmX5, rfl, rfl, by decide +kernel, fun _ => rfl, fun _ => rfl⟩
theorem gk_400 : Cond.fieldLink RX7 9 "StackDesk$Writer" "text" "[B" ∈ gG := gG_in 400 (by decide +kernel) (by decide +kernel)
theorem fr_X7_9 : gFR RX7 9 7 0 := ⟨RX7, TX7, 2, tyX7, .array (.byte), rfl, by decide, by decide, by decide, gk_400, gu_X7, rfl, tyX7_ok, nmX7, rfl, rfl, by decide +kernel, fun _ => rfl, fun _ => rfl⟩
theorem gk_409 : Cond.fieldLink RX8 10 "StackDesk" "desk" "LStackDesk$Desk;" ∈ gG := gG_in 409 (by decide +kernel) (by decide +kernel)
theorem fr_X8_10 : gFR RX8 10 8 0 := ⟨RX8, TX8, 7, tyX8, .object "StackDesk$Desk", rfl, by decide, by decide, by decide, gk_409, gu_X8, rfl, tyX8_ok, nmX8, rfl, rfl, by decide +kernel, fun _ => rfl, fun _ => rfl⟩
theorem gk_410 : Cond.fieldLink RX8 26 "StackDesk" "trial" "LStackDesk$Desk;" ∈ gG := gG_in 410 (by decide +kernel) (by decide +kernel)
theorem fr_X8_26 : gFR RX8 26 8 1 := ⟨RX8, TX8, 7, tyX8, .object "StackDesk$Desk", rfl, by decide, by decide, by decide, gk_410, gu_X8, rfl, tyX8_ok, nmX8, rfl, rfl, by decide +kernel, fun _ => rfl, fun _ => rfl⟩
theorem gk_411 : Cond.fieldLink RX8 32 "StackDesk" "history" "LStackDesk$History;" ∈ gG := gG_in 411 (by decide +kernel) (by decide +kernel)
theorem fr_X8_32 : gFR RX8 32 8 2 := ⟨RX8, TX8, 7, tyX8, .object "StackDesk$History", rfl, by decide, by decide, by decide, gk_411, gu_X8, rfl, tyX8_ok, nmX8, rfl, rfl, by decide +kernel, fun _ => rfl, fun _ => rfl⟩
theorem gk_412 : Cond.fieldLink RX8 36 "StackDesk" "saved" "[LStackDesk$Desk;" ∈ gG := gG_in 412 (by decide +kernel) (by decide +kernel)
theorem fr_X8_36 : gFR RX8 36 8 3 := ⟨RX8, TX8, 7, tyX8, .array (.object "StackDesk$Desk"), rfl, by decide, by decide, by decide, gk_412, gu_X8, rfl, tyX8_ok, nmX8, rfl, rfl, by decide +kernel, fun _ => rfl, fun _ => rfl⟩
theorem gk_413 : Cond.fieldLink RX8 40 "StackDesk" "isSaved" "[Z" ∈ gG := gG_in 413 (by decide +kernel) (by decide +kernel)
theorem fr_X8_40 : gFR RX8 40 8 4 := ⟨RX8, TX8, 7, tyX8, .array (.boolean), rfl, by decide, by decide, by decide, gk_413, gu_X8, rfl, tyX8_ok, nmX8, rfl, rfl, by decide +kernel, fun _ => rfl, fun _ => rfl⟩
theorem gk_414 : Cond.fieldLink RX8 47 "StackDesk" "reader" "LStackDesk$Reader;" ∈ gG := gG_in 414 (by decide +kernel) (by decide +kernel)
theorem fr_X8_47 : gFR RX8 47 8 5 := ⟨RX8, TX8, 7, tyX8, .object "StackDesk$Reader", rfl, by decide, by decide, by decide, gk_414, gu_X8, rfl, tyX8_ok, nmX8, rfl, rfl, by decide +kernel, fun _ => rfl, fun _ => rfl⟩
theorem gk_415 : Cond.fieldLink RX8 54 "StackDesk" "writer" "LStackDesk$Writer;" ∈ gG := gG_in 415 (by decide +kernel) (by decide +kernel)
theorem fr_X8_54 : gFR RX8 54 8 6 := ⟨RX8, TX8, 7, tyX8, .object "StackDesk$Writer", rfl, by decide, by decide, by decide, gk_415, gu_X8, rfl, tyX8_ok, nmX8, rfl, rfl, by decide +kernel, fun _ => rfl, fun _ => rfl⟩
theorem gk_1216 : Cond.fieldLink RX9 7 "StackDeskModel" "a" "[I" ∈ gG := gG_in 1216 (by decide +kernel) (by decide +kernel)
theorem fr_X9_7 : gFR RX9 7 9 0 := ⟨RX9, TX9, 20, tyX9, .array (.int), rfl, by decide, by decide, by decide, gk_1216, gu_X9, rfl, tyX9_ok, nmX9, rfl, rfl, by decide +kernel, fun _ => rfl, fun _ => rfl⟩
theorem gk_1217 : Cond.fieldLink RX9 13 "StackDeskModel" "aside" "[I" ∈ gG := gG_in 1217 (by decide +kernel) (by decide +kernel)
theorem fr_X9_13 : gFR RX9 13 9 1 := ⟨RX9, TX9, 20, tyX9, .array (.int), rfl, by decide, by decide, by decide, gk_1217, gu_X9, rfl, tyX9_ok, nmX9, rfl, rfl, by decide +kernel, fun _ => rfl, fun _ => rfl⟩
theorem gk_1218 : Cond.fieldLink RX9 16 "StackDeskModel" "tried" "[I" ∈ gG := gG_in 1218 (by decide +kernel) (by decide +kernel)
theorem fr_X9_16 : gFR RX9 16 9 2 := ⟨RX9, TX9, 20, tyX9, .array (.int), rfl, by decide, by decide, by decide, gk_1218, gu_X9, rfl, tyX9_ok, nmX9, rfl, rfl, by decide +kernel, fun _ => rfl, fun _ => rfl⟩
theorem gk_1219 : Cond.fieldLink RX9 19 "StackDeskModel" "kept" "[I" ∈ gG := gG_in 1219 (by decide +kernel) (by decide +kernel)
theorem fr_X9_19 : gFR RX9 19 9 3 := ⟨RX9, TX9, 20, tyX9, .array (.int), rfl, by decide, by decide, by decide, gk_1219, gu_X9, rfl, tyX9_ok, nmX9, rfl, rfl, by decide +kernel, fun _ => rfl, fun _ => rfl⟩
theorem gk_1220 : Cond.fieldLink RX9 22 "StackDeskModel" "saved" "[I" ∈ gG := gG_in 1220 (by decide +kernel) (by decide +kernel)
theorem fr_X9_22 : gFR RX9 22 9 4 := ⟨RX9, TX9, 20, tyX9, .array (.int), rfl, by decide, by decide, by decide, gk_1220, gu_X9, rfl, tyX9_ok, nmX9, rfl, rfl, by decide +kernel, fun _ => rfl, fun _ => rfl⟩
theorem gk_1221 : Cond.fieldLink RX9 25 "StackDeskModel" "isSaved" "[Z" ∈ gG := gG_in 1221 (by decide +kernel) (by decide +kernel)
theorem fr_X9_25 : gFR RX9 25 9 5 := ⟨RX9, TX9, 20, tyX9, .array (.boolean), rfl, by decide, by decide, by decide, gk_1221, gu_X9, rfl, tyX9_ok, nmX9, rfl, rfl, by decide +kernel, fun _ => rfl, fun _ => rfl⟩
theorem gk_1224 : Cond.fieldLink RX9 29 "StackDeskModel" "buffer" "[I" ∈ gG := gG_in 1224 (by decide +kernel) (by decide +kernel)
theorem fr_X9_29 : gFR RX9 29 9 8 := ⟨RX9, TX9, 20, tyX9, .array (.int), rfl, by decide, by decide, by decide, gk_1224, gu_X9, rfl, tyX9_ok, nmX9, rfl, rfl, by decide +kernel, fun _ => rfl, fun _ => rfl⟩
theorem gk_1234 : Cond.fieldLink RX9 36 "StackDeskModel" "written" "[I" ∈ gG := gG_in 1234 (by decide +kernel) (by decide +kernel)
theorem fr_X9_36 : gFR RX9 36 9 18 := ⟨RX9, TX9, 20, tyX9, .array (.int), rfl, by decide, by decide, by decide, gk_1234, gu_X9, rfl, tyX9_ok, nmX9, rfl, rfl, by decide +kernel, fun _ => rfl, fun _ => rfl⟩
theorem dv_X0 : ∀ j, j < 9 → defaultValue (tyX0 j) = gdv ((gfk 1).getD j 0) := by
  intro j hj
  match j, hj with
  | 0, _ => rfl
  | 1, _ => rfl
  | 2, _ => rfl
  | 3, _ => rfl
  | 4, _ => rfl
  | 5, _ => rfl
  | 6, _ => rfl
  | 7, _ => rfl
  | 8, _ => rfl
  | j + 9, h => omega
theorem dv_X1 : ∀ j, j < 3 → defaultValue (tyX1 j) = gdv ((gfk 2).getD j 0) := by
  intro j hj
  match j, hj with
  | 0, _ => rfl
  | 1, _ => rfl
  | 2, _ => rfl
  | j + 3, h => omega
theorem dv_X2 : ∀ j, j < 5 → defaultValue (tyX2 j) = gdv ((gfk 3).getD j 0) := by
  intro j hj
  match j, hj with
  | 0, _ => rfl
  | 1, _ => rfl
  | 2, _ => rfl
  | 3, _ => rfl
  | 4, _ => rfl
  | j + 5, h => omega
theorem dv_X3 : ∀ j, j < 6 → defaultValue (tyX3 j) = gdv ((gfk 4).getD j 0) := by
  intro j hj
  match j, hj with
  | 0, _ => rfl
  | 1, _ => rfl
  | 2, _ => rfl
  | 3, _ => rfl
  | 4, _ => rfl
  | 5, _ => rfl
  | j + 6, h => omega
theorem dv_X4 : ∀ j, j < 15 → defaultValue (tyX4 j) = gdv ((gfk 5).getD j 0) := by
  intro j hj
  match j, hj with
  | 0, _ => rfl
  | 1, _ => rfl
  | 2, _ => rfl
  | 3, _ => rfl
  | 4, _ => rfl
  | 5, _ => rfl
  | 6, _ => rfl
  | 7, _ => rfl
  | 8, _ => rfl
  | 9, _ => rfl
  | 10, _ => rfl
  | 11, _ => rfl
  | 12, _ => rfl
  | 13, _ => rfl
  | 14, _ => rfl
  | j + 15, h => omega
theorem dv_X5 : ∀ j, j < 11 → defaultValue (tyX5 j) = gdv ((gfk 6).getD j 0) := by
  intro j hj
  match j, hj with
  | 0, _ => rfl
  | 1, _ => rfl
  | 2, _ => rfl
  | 3, _ => rfl
  | 4, _ => rfl
  | 5, _ => rfl
  | 6, _ => rfl
  | 7, _ => rfl
  | 8, _ => rfl
  | 9, _ => rfl
  | 10, _ => rfl
  | j + 11, h => omega
theorem dv_X7 : ∀ j, j < 2 → defaultValue (tyX7 j) = gdv ((gfk 7).getD j 0) := by
  intro j hj
  match j, hj with
  | 0, _ => rfl
  | 1, _ => rfl
  | j + 2, h => omega
theorem dv_X8 : ∀ j, j < 7 → defaultValue (tyX8 j) = gdv ((gfk 8).getD j 0) := by
  intro j hj
  match j, hj with
  | 0, _ => rfl
  | 1, _ => rfl
  | 2, _ => rfl
  | 3, _ => rfl
  | 4, _ => rfl
  | 5, _ => rfl
  | 6, _ => rfl
  | j + 7, h => omega
theorem dv_X9 : ∀ j, j < 20 → defaultValue (tyX9 j) = gdv ((gfk 9).getD j 0) := by
  intro j hj
  match j, hj with
  | 0, _ => rfl
  | 1, _ => rfl
  | 2, _ => rfl
  | 3, _ => rfl
  | 4, _ => rfl
  | 5, _ => rfl
  | 6, _ => rfl
  | 7, _ => rfl
  | 8, _ => rfl
  | 9, _ => rfl
  | 10, _ => rfl
  | 11, _ => rfl
  | 12, _ => rfl
  | 13, _ => rfl
  | 14, _ => rfl
  | 15, _ => rfl
  | 16, _ => rfl
  | 17, _ => rfl
  | 18, _ => rfl
  | 19, _ => rfl
  | j + 20, h => omega
theorem gk_132 : Cond.classLink RX0 27 RX2 ∈ gG := gG_in 132 (by decide +kernel) (by decide +kernel)
theorem gk_133 : Cond.instantiable RX2 5 ∈ gG := gG_in 133 (by decide +kernel) (by decide +kernel)
theorem gk_94 : Cond.initialized RX2 ∈ gG := gG_in 94 (by decide +kernel) (by decide +kernel)
theorem nk_X0_27 : gNK RX0 27 3 := ⟨RX2, TX2, 5, tyX2, rfl, by decide, by decide, rfl, tyX2_ok, dv_X2, gk_132, gk_133, gk_94, gu_X2⟩
theorem gk_128 : Cond.classLink RX0 9 RX4 ∈ gG := gG_in 128 (by decide +kernel) (by decide +kernel)
theorem gk_156 : Cond.instantiable RX4 15 ∈ gG := gG_in 156 (by decide +kernel) (by decide +kernel)
theorem gk_95 : Cond.initialized RX4 ∈ gG := gG_in 95 (by decide +kernel) (by decide +kernel)
theorem nk_X0_9 : gNK RX0 9 5 := ⟨RX4, TX4, 15, tyX4, rfl, by decide, by decide, rfl, tyX4_ok, dv_X4, gk_128, gk_156, gk_95, gu_X4⟩
theorem gk_130 : Cond.classLink RX0 17 RX3 ∈ gG := gG_in 130 (by decide +kernel) (by decide +kernel)
theorem gk_236 : Cond.instantiable RX3 6 ∈ gG := gG_in 236 (by decide +kernel) (by decide +kernel)
theorem gk_96 : Cond.initialized RX3 ∈ gG := gG_in 96 (by decide +kernel) (by decide +kernel)
theorem nk_X0_17 : gNK RX0 17 4 := ⟨RX3, TX3, 6, tyX3, rfl, by decide, by decide, rfl, tyX3_ok, dv_X3, gk_130, gk_236, gk_96, gu_X3⟩
theorem gk_332 : Cond.classLink RX1 9 RX0 ∈ gG := gG_in 332 (by decide +kernel) (by decide +kernel)
theorem gk_123 : Cond.instantiable RX0 9 ∈ gG := gG_in 123 (by decide +kernel) (by decide +kernel)
theorem gk_93 : Cond.initialized RX0 ∈ gG := gG_in 93 (by decide +kernel) (by decide +kernel)
theorem nk_X1_9 : gNK RX1 9 1 := ⟨RX0, TX0, 9, tyX0, rfl, by decide, by decide, rfl, tyX0_ok, dv_X0, gk_332, gk_123, gk_93, gu_X0⟩
theorem gk_352 : Cond.classLink RX5 15 RX0 ∈ gG := gG_in 352 (by decide +kernel) (by decide +kernel)
theorem nk_X5_15 : gNK RX5 15 1 := ⟨RX0, TX0, 9, tyX0, rfl, by decide, by decide, rfl, tyX0_ok, dv_X0, gk_352, gk_123, gk_93, gu_X0⟩
theorem gk_122 : Cond.classLink RX8 7 RX0 ∈ gG := gG_in 122 (by decide +kernel) (by decide +kernel)
theorem nk_X8_7 : gNK RX8 7 1 := ⟨RX0, TX0, 9, tyX0, rfl, by decide, by decide, rfl, tyX0_ok, dv_X0, gk_122, gk_123, gk_93, gu_X0⟩
theorem gk_326 : Cond.classLink RX8 29 RX1 ∈ gG := gG_in 326 (by decide +kernel) (by decide +kernel)
theorem gk_327 : Cond.instantiable RX1 3 ∈ gG := gG_in 327 (by decide +kernel) (by decide +kernel)
theorem gk_97 : Cond.initialized RX1 ∈ gG := gG_in 97 (by decide +kernel) (by decide +kernel)
theorem nk_X8_29 : gNK RX8 29 2 := ⟨RX1, TX1, 3, tyX1, rfl, by decide, by decide, rfl, tyX1_ok, dv_X1, gk_326, gk_327, gk_97, gu_X1⟩
theorem gk_346 : Cond.classLink RX8 44 RX5 ∈ gG := gG_in 346 (by decide +kernel) (by decide +kernel)
theorem gk_347 : Cond.instantiable RX5 11 ∈ gG := gG_in 347 (by decide +kernel) (by decide +kernel)
theorem gk_98 : Cond.initialized RX5 ∈ gG := gG_in 98 (by decide +kernel) (by decide +kernel)
theorem nk_X8_44 : gNK RX8 44 6 := ⟨RX5, TX5, 11, tyX5, rfl, by decide, by decide, rfl, tyX5_ok, dv_X5, gk_346, gk_347, gk_98, gu_X5⟩
theorem gk_394 : Cond.classLink RX8 51 RX7 ∈ gG := gG_in 394 (by decide +kernel) (by decide +kernel)
theorem gk_395 : Cond.instantiable RX7 2 ∈ gG := gG_in 395 (by decide +kernel) (by decide +kernel)
theorem gk_99 : Cond.initialized RX7 ∈ gG := gG_in 99 (by decide +kernel) (by decide +kernel)
theorem nk_X8_51 : gNK RX8 51 7 := ⟨RX7, TX7, 2, tyX7, rfl, by decide, by decide, rfl, tyX7_ok, dv_X7, gk_394, gk_395, gk_99, gu_X7⟩
theorem gk_134 : Cond.methodLinkNest RX0 29 yX2_init "StackDesk" ∈ gNG := List.mem_filter.mpr ⟨List.mem_of_getElem? (i := 134) (by decide +kernel), by decide +kernel⟩
theorem gk_135 : Cond.instanceMethod yX2_init ∈ gG := gG_in 135 (by decide +kernel) (by decide +kernel)
theorem gk_136 : Cond.code yX2_init cX2_init 1 none ∈ gG := gG_in 136 (by decide +kernel) (by decide +kernel)
theorem ck_X0_29 : (Cond.methodLink RX0 29 yX2_init ∈ gG ∨ ∃ host, Cond.methodLinkNest RX0 29 yX2_init host ∈ gNG) ∧ Cond.instanceMethod yX2_init ∈ gG ∧ Cond.initialized yX2_init.cls ∈ gG ∧ Cond.code yX2_init cX2_init 1 none ∈ gG ∧ yX2_init.name = "<init>" ∧ (yX2_init.cls ≠ "java/lang/invoke/MethodHandle" ∧ yX2_init.cls ≠ "java/lang/invoke/VarHandle" ∧ (parseMethodDescriptor yX2_init.desc).map (fun d => d.parameters.length) = some 0) := ⟨Or.inr ⟨_, gk_134⟩, gk_135, gk_94, gk_136, rfl, by decide +kernel, by decide +kernel, by decide +kernel⟩
theorem gk_157 : Cond.methodLinkNest RX0 34 yX4_init "StackDesk" ∈ gNG := List.mem_filter.mpr ⟨List.mem_of_getElem? (i := 157) (by decide +kernel), by decide +kernel⟩
theorem gk_158 : Cond.instanceMethod yX4_init ∈ gG := gG_in 158 (by decide +kernel) (by decide +kernel)
theorem gk_159 : Cond.code yX4_init cX4_init 1 none ∈ gG := gG_in 159 (by decide +kernel) (by decide +kernel)
theorem ck_X0_34 : (Cond.methodLink RX0 34 yX4_init ∈ gG ∨ ∃ host, Cond.methodLinkNest RX0 34 yX4_init host ∈ gNG) ∧ Cond.instanceMethod yX4_init ∈ gG ∧ Cond.initialized yX4_init.cls ∈ gG ∧ Cond.code yX4_init cX4_init 1 none ∈ gG ∧ yX4_init.name = "<init>" ∧ (yX4_init.cls ≠ "java/lang/invoke/MethodHandle" ∧ yX4_init.cls ≠ "java/lang/invoke/VarHandle" ∧ (parseMethodDescriptor yX4_init.desc).map (fun d => d.parameters.length) = some 0) := ⟨Or.inr ⟨_, gk_157⟩, gk_158, gk_95, gk_159, rfl, by decide +kernel, by decide +kernel, by decide +kernel⟩
theorem gk_237 : Cond.methodLinkNest RX0 35 yX3_init "StackDesk" ∈ gNG := List.mem_filter.mpr ⟨List.mem_of_getElem? (i := 237) (by decide +kernel), by decide +kernel⟩
theorem gk_238 : Cond.instanceMethod yX3_init ∈ gG := gG_in 238 (by decide +kernel) (by decide +kernel)
theorem gk_239 : Cond.code yX3_init cX3_init 1 none ∈ gG := gG_in 239 (by decide +kernel) (by decide +kernel)
theorem ck_X0_35 : (Cond.methodLink RX0 35 yX3_init ∈ gG ∨ ∃ host, Cond.methodLinkNest RX0 35 yX3_init host ∈ gNG) ∧ Cond.instanceMethod yX3_init ∈ gG ∧ Cond.initialized yX3_init.cls ∈ gG ∧ Cond.code yX3_init cX3_init 1 none ∈ gG ∧ yX3_init.name = "<init>" ∧ (yX3_init.cls ≠ "java/lang/invoke/MethodHandle" ∧ yX3_init.cls ≠ "java/lang/invoke/VarHandle" ∧ (parseMethodDescriptor yX3_init.desc).map (fun d => d.parameters.length) = some 0) := ⟨Or.inr ⟨_, gk_237⟩, gk_238, gk_96, gk_239, rfl, by decide +kernel, by decide +kernel, by decide +kernel⟩
theorem gk_334 : Cond.methodLink RX1 17 yX0_init ∈ gG := gG_in 334 (by decide +kernel) (by decide +kernel)
theorem gk_125 : Cond.instanceMethod yX0_init ∈ gG := gG_in 125 (by decide +kernel) (by decide +kernel)
theorem gk_126 : Cond.code yX0_init cX0_init 2 none ∈ gG := gG_in 126 (by decide +kernel) (by decide +kernel)
theorem ck_X1_17 : (Cond.methodLink RX1 17 yX0_init ∈ gG ∨ ∃ host, Cond.methodLinkNest RX1 17 yX0_init host ∈ gNG) ∧ Cond.instanceMethod yX0_init ∈ gG ∧ Cond.initialized yX0_init.cls ∈ gG ∧ Cond.code yX0_init cX0_init 2 none ∈ gG ∧ yX0_init.name = "<init>" ∧ (yX0_init.cls ≠ "java/lang/invoke/MethodHandle" ∧ yX0_init.cls ≠ "java/lang/invoke/VarHandle" ∧ (parseMethodDescriptor yX0_init.desc).map (fun d => d.parameters.length) = some 0) := ⟨Or.inl gk_334, gk_125, gk_93, gk_126, rfl, by decide +kernel, by decide +kernel, by decide +kernel⟩
theorem gk_353 : Cond.methodLink RX5 17 yX0_init ∈ gG := gG_in 353 (by decide +kernel) (by decide +kernel)
theorem ck_X5_17 : (Cond.methodLink RX5 17 yX0_init ∈ gG ∨ ∃ host, Cond.methodLinkNest RX5 17 yX0_init host ∈ gNG) ∧ Cond.instanceMethod yX0_init ∈ gG ∧ Cond.initialized yX0_init.cls ∈ gG ∧ Cond.code yX0_init cX0_init 2 none ∈ gG ∧ yX0_init.name = "<init>" ∧ (yX0_init.cls ≠ "java/lang/invoke/MethodHandle" ∧ yX0_init.cls ≠ "java/lang/invoke/VarHandle" ∧ (parseMethodDescriptor yX0_init.desc).map (fun d => d.parameters.length) = some 0) := ⟨Or.inl gk_353, gk_125, gk_93, gk_126, rfl, by decide +kernel, by decide +kernel, by decide +kernel⟩
theorem gk_124 : Cond.methodLink RX8 9 yX0_init ∈ gG := gG_in 124 (by decide +kernel) (by decide +kernel)
theorem ck_X8_9 : (Cond.methodLink RX8 9 yX0_init ∈ gG ∨ ∃ host, Cond.methodLinkNest RX8 9 yX0_init host ∈ gNG) ∧ Cond.instanceMethod yX0_init ∈ gG ∧ Cond.initialized yX0_init.cls ∈ gG ∧ Cond.code yX0_init cX0_init 2 none ∈ gG ∧ yX0_init.name = "<init>" ∧ (yX0_init.cls ≠ "java/lang/invoke/MethodHandle" ∧ yX0_init.cls ≠ "java/lang/invoke/VarHandle" ∧ (parseMethodDescriptor yX0_init.desc).map (fun d => d.parameters.length) = some 0) := ⟨Or.inl gk_124, gk_125, gk_93, gk_126, rfl, by decide +kernel, by decide +kernel, by decide +kernel⟩
theorem gk_328 : Cond.methodLink RX8 31 yX1_init ∈ gG := gG_in 328 (by decide +kernel) (by decide +kernel)
theorem gk_329 : Cond.instanceMethod yX1_init ∈ gG := gG_in 329 (by decide +kernel) (by decide +kernel)
theorem gk_330 : Cond.code yX1_init cX1_init 2 none ∈ gG := gG_in 330 (by decide +kernel) (by decide +kernel)
theorem ck_X8_31 : (Cond.methodLink RX8 31 yX1_init ∈ gG ∨ ∃ host, Cond.methodLinkNest RX8 31 yX1_init host ∈ gNG) ∧ Cond.instanceMethod yX1_init ∈ gG ∧ Cond.initialized yX1_init.cls ∈ gG ∧ Cond.code yX1_init cX1_init 2 none ∈ gG ∧ yX1_init.name = "<init>" ∧ (yX1_init.cls ≠ "java/lang/invoke/MethodHandle" ∧ yX1_init.cls ≠ "java/lang/invoke/VarHandle" ∧ (parseMethodDescriptor yX1_init.desc).map (fun d => d.parameters.length) = some 0) := ⟨Or.inl gk_328, gk_329, gk_97, gk_330, rfl, by decide +kernel, by decide +kernel, by decide +kernel⟩
theorem gk_348 : Cond.methodLinkNest RX8 46 yX5_init "StackDesk" ∈ gNG := List.mem_filter.mpr ⟨List.mem_of_getElem? (i := 348) (by decide +kernel), by decide +kernel⟩
theorem gk_349 : Cond.instanceMethod yX5_init ∈ gG := gG_in 349 (by decide +kernel) (by decide +kernel)
theorem gk_350 : Cond.code yX5_init cX5_init 1 none ∈ gG := gG_in 350 (by decide +kernel) (by decide +kernel)
theorem ck_X8_46 : (Cond.methodLink RX8 46 yX5_init ∈ gG ∨ ∃ host, Cond.methodLinkNest RX8 46 yX5_init host ∈ gNG) ∧ Cond.instanceMethod yX5_init ∈ gG ∧ Cond.initialized yX5_init.cls ∈ gG ∧ Cond.code yX5_init cX5_init 1 none ∈ gG ∧ yX5_init.name = "<init>" ∧ (yX5_init.cls ≠ "java/lang/invoke/MethodHandle" ∧ yX5_init.cls ≠ "java/lang/invoke/VarHandle" ∧ (parseMethodDescriptor yX5_init.desc).map (fun d => d.parameters.length) = some 0) := ⟨Or.inr ⟨_, gk_348⟩, gk_349, gk_98, gk_350, rfl, by decide +kernel, by decide +kernel, by decide +kernel⟩
theorem gk_396 : Cond.methodLinkNest RX8 53 yX7_init "StackDesk" ∈ gNG := List.mem_filter.mpr ⟨List.mem_of_getElem? (i := 396) (by decide +kernel), by decide +kernel⟩
theorem gk_397 : Cond.instanceMethod yX7_init ∈ gG := gG_in 397 (by decide +kernel) (by decide +kernel)
theorem gk_398 : Cond.code yX7_init cX7_init 1 none ∈ gG := gG_in 398 (by decide +kernel) (by decide +kernel)
theorem ck_X8_53 : (Cond.methodLink RX8 53 yX7_init ∈ gG ∨ ∃ host, Cond.methodLinkNest RX8 53 yX7_init host ∈ gNG) ∧ Cond.instanceMethod yX7_init ∈ gG ∧ Cond.initialized yX7_init.cls ∈ gG ∧ Cond.code yX7_init cX7_init 1 none ∈ gG ∧ yX7_init.name = "<init>" ∧ (yX7_init.cls ≠ "java/lang/invoke/MethodHandle" ∧ yX7_init.cls ≠ "java/lang/invoke/VarHandle" ∧ (parseMethodDescriptor yX7_init.desc).map (fun d => d.parameters.length) = some 0) := ⟨Or.inr ⟨_, gk_396⟩, gk_397, gk_99, gk_398, rfl, by decide +kernel, by decide +kernel, by decide +kernel⟩
theorem gk_127 : Cond.methodLink RX0 3 objectInit ∈ gG := gG_in 127 (by decide +kernel) (by decide +kernel)
theorem ob_X0 : Cond.methodLink RX0 3 objectInit ∈ gG := gk_127
theorem gk_331 : Cond.methodLink RX1 3 objectInit ∈ gG := gG_in 331 (by decide +kernel) (by decide +kernel)
theorem ob_X1 : Cond.methodLink RX1 3 objectInit ∈ gG := gk_331
theorem gk_137 : Cond.methodLink RX2 3 objectInit ∈ gG := gG_in 137 (by decide +kernel) (by decide +kernel)
theorem ob_X2 : Cond.methodLink RX2 3 objectInit ∈ gG := gk_137
theorem gk_240 : Cond.methodLink RX3 3 objectInit ∈ gG := gG_in 240 (by decide +kernel) (by decide +kernel)
theorem ob_X3 : Cond.methodLink RX3 3 objectInit ∈ gG := gk_240
theorem gk_160 : Cond.methodLink RX4 3 objectInit ∈ gG := gG_in 160 (by decide +kernel) (by decide +kernel)
theorem ob_X4 : Cond.methodLink RX4 3 objectInit ∈ gG := gk_160
theorem gk_351 : Cond.methodLink RX5 3 objectInit ∈ gG := gG_in 351 (by decide +kernel) (by decide +kernel)
theorem ob_X5 : Cond.methodLink RX5 3 objectInit ∈ gG := gk_351
theorem gk_399 : Cond.methodLink RX7 3 objectInit ∈ gG := gG_in 399 (by decide +kernel) (by decide +kernel)
theorem ob_X7 : Cond.methodLink RX7 3 objectInit ∈ gG := gk_399
theorem gk_119 : Cond.methodLink RX8 1 objectInit ∈ gG := gG_in 119 (by decide +kernel) (by decide +kernel)
theorem ob_X8 : Cond.methodLink RX8 1 objectInit ∈ gG := gk_119
theorem gk_1207 : Cond.methodLink RX9 1 objectInit ∈ gG := gG_in 1207 (by decide +kernel) (by decide +kernel)
theorem ob_X9 : Cond.methodLink RX9 1 objectInit ∈ gG := gk_1207
theorem gk_155 : Cond.arrayClass .int ∈ gG := gG_in 155 (by decide +kernel) (by decide +kernel)
theorem ac_int : Cond.arrayClass .int ∈ gG := gk_155
theorem gk_392 : Cond.arrayClass .boolean ∈ gG := gG_in 392 (by decide +kernel) (by decide +kernel)
theorem ac_boolean : Cond.arrayClass .boolean ∈ gG := gk_392
theorem gk_393 : Cond.arrayClass .byte ∈ gG := gG_in 393 (by decide +kernel) (by decide +kernel)
theorem ac_byte : Cond.arrayClass .byte ∈ gG := gk_393
theorem cl_X0_9 : Cond.classLink RX0 9 RX4 ∈ gG := gk_128
theorem cl_X0_17 : Cond.classLink RX0 17 RX3 ∈ gG := gk_130
theorem cl_X1_9 : Cond.classLink RX1 9 RX0 ∈ gG := gk_332
theorem cl_X8_7 : Cond.classLink RX8 7 RX0 ∈ gG := gk_122
