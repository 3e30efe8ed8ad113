/-! The start: strings, classes, constants -/
def stF : List Cond := flatC (Jvm.Cond.and given_1 narrow_1)
def stS (i : Nat) : Term := .string (gSL.getD i ("", 0, "")).1 (gSL.getD i ("", 0, "")).2.1
def stV (i : Nat) : Term := .field (stS i) "java/lang/String" "value" "[B"
def stC (i : Nat) : List Cond := Cond.exactly (stS i) "java/lang/String" :: (match gtx i with
  | [] => []
  | _ => Cond.eq (.field (stS i) "java/lang/String" "coder" "B") (.int 0) :: Cond.arrayOf (stV i) .byte :: Cond.eq (.length (stV i)) (.int (Int32.ofNat (gtx i).length)) :: (List.range (gtx i).length).map fun j => Cond.eq (.elem (stV i) (.int (Int32.ofNat j))) (.int (gi ((gtx i).getD j 0))))
def stI : List (List Nat) := [[83, 84, 85, 86, 87, 88, 89, 90], [91, 92, 93, 94, 95, 96, 97, 98, 99, 100, 101], [102, 103, 104, 105, 106, 107, 108, 109], [110, 111, 112, 113, 114, 115, 116], [117, 118, 119, 120, 121, 122, 123, 124], [125, 126, 127, 128, 129, 130, 131], [132, 133, 134, 135, 136, 137, 138], [139, 140, 141, 142, 143, 144, 145, 146], [147, 148, 149, 150, 151, 152, 153], [154, 155, 156, 157, 158, 159, 160], [161, 162, 163, 164, 165, 166, 167], [168, 169, 170, 171, 172, 173, 174], [175, 176, 177, 178, 179, 180, 181], [182, 183, 184, 185, 186, 187, 188, 189], [190, 191, 192, 193, 194, 195, 196, 197], [198, 199, 200, 201, 202, 203, 204, 205], [206, 207, 208, 209, 210, 211, 212, 213], [214, 215, 216, 217, 218, 219, 220, 221], [222, 223, 224, 225, 226, 227, 228, 229, 230], [231, 232, 233, 234, 235, 236, 237, 238], [239, 240, 241, 242, 243, 244], [245], [275], [305], [324], [355], [372], [401], [417], [436], [467], [496], [524], [546], [568], [595], [628], [658], [692], [718], [734, 735, 736, 737, 738, 739, 740, 741], [743, 744, 745, 746, 747, 748, 749, 750, 751, 752, 753], [755, 756, 757, 758, 759, 760, 761, 762], [764, 765, 766, 767, 768, 769, 770], [772, 773, 774, 775, 776, 777, 778, 779], [781, 782, 783, 784, 785, 786, 787], [789, 790, 791, 792, 793, 794, 795], [797, 798, 799, 800, 801, 802, 803, 804], [806, 807, 808, 809, 810, 811, 812], [814, 815, 816, 817, 818, 819, 820], [822, 823, 824, 825, 826, 827, 828], [830, 831, 832, 833, 834, 835, 836], [838, 839, 840, 841, 842, 843, 844], [846, 847, 848, 849, 850, 851, 852, 853], [855, 856, 857, 858, 859, 860, 861, 862], [864, 865, 866, 867, 868, 869, 870, 871], [873, 874, 875, 876, 877, 878, 879, 880], [882, 883, 884, 885, 886, 887, 888, 889], [891, 892, 893, 894, 895, 896, 897, 898, 899], [901, 902, 903, 904, 905, 906, 907, 908], [910, 911, 912, 913, 914, 915]]
def stZ : List Nat → List Cond → Bool
  | [], [] => true
  | k :: ks, c :: cs => decide (stF[k]? = some c) && stZ ks cs
  | _, _ => false
theorem stZ_mem : ∀ (ks : List Nat) (cs : List Cond), stZ ks cs = true → ∀ c ∈ cs, c ∈ stF := by
  intro ks
  induction ks with
  | nil =>
    intro cs h c hc
    cases cs with
    | nil => cases hc
    | cons a as => cases h
  | cons k ks ih =>
    intro cs h c hc
    cases cs with
    | nil => cases hc
    | cons a as =>
      have h2 : (decide (stF[k]? = some a) && stZ ks as) = true := h
      rw [Bool.and_eq_true] at h2
      rcases List.mem_cons.mp hc with rfl | hc
      · exact List.mem_of_getElem? (of_decide_eq_true h2.1)
      · exact ih as h2.2 c hc
theorem st_c0 : stZ (stI.getD 0 []) (stC 0) = true := by decide +kernel
theorem st_c1 : stZ (stI.getD 1 []) (stC 1) = true := by decide +kernel
theorem st_c2 : stZ (stI.getD 2 []) (stC 2) = true := by decide +kernel
theorem st_c3 : stZ (stI.getD 3 []) (stC 3) = true := by decide +kernel
theorem st_c4 : stZ (stI.getD 4 []) (stC 4) = true := by decide +kernel
theorem st_c5 : stZ (stI.getD 5 []) (stC 5) = true := by decide +kernel
theorem st_c6 : stZ (stI.getD 6 []) (stC 6) = true := by decide +kernel
theorem st_c7 : stZ (stI.getD 7 []) (stC 7) = true := by decide +kernel
theorem st_c8 : stZ (stI.getD 8 []) (stC 8) = true := by decide +kernel
theorem st_c9 : stZ (stI.getD 9 []) (stC 9) = true := by decide +kernel
theorem st_c10 : stZ (stI.getD 10 []) (stC 10) = true := by decide +kernel
theorem st_c11 : stZ (stI.getD 11 []) (stC 11) = true := by decide +kernel
theorem st_c12 : stZ (stI.getD 12 []) (stC 12) = true := by decide +kernel
theorem st_c13 : stZ (stI.getD 13 []) (stC 13) = true := by decide +kernel
theorem st_c14 : stZ (stI.getD 14 []) (stC 14) = true := by decide +kernel
theorem st_c15 : stZ (stI.getD 15 []) (stC 15) = true := by decide +kernel
theorem st_c16 : stZ (stI.getD 16 []) (stC 16) = true := by decide +kernel
theorem st_c17 : stZ (stI.getD 17 []) (stC 17) = true := by decide +kernel
theorem st_c18 : stZ (stI.getD 18 []) (stC 18) = true := by decide +kernel
theorem st_c19 : stZ (stI.getD 19 []) (stC 19) = true := by decide +kernel
theorem st_c20 : stZ (stI.getD 20 []) (stC 20) = true := by decide +kernel
theorem st_c21 : stZ (stI.getD 21 []) (stC 21) = true := by decide +kernel
theorem st_c22 : stZ (stI.getD 22 []) (stC 22) = true := by decide +kernel
theorem st_c23 : stZ (stI.getD 23 []) (stC 23) = true := by decide +kernel
theorem st_c24 : stZ (stI.getD 24 []) (stC 24) = true := by decide +kernel
theorem st_c25 : stZ (stI.getD 25 []) (stC 25) = true := by decide +kernel
theorem st_c26 : stZ (stI.getD 26 []) (stC 26) = true := by decide +kernel
theorem st_c27 : stZ (stI.getD 27 []) (stC 27) = true := by decide +kernel
theorem st_c28 : stZ (stI.getD 28 []) (stC 28) = true := by decide +kernel
theorem st_c29 : stZ (stI.getD 29 []) (stC 29) = true := by decide +kernel
theorem st_c30 : stZ (stI.getD 30 []) (stC 30) = true := by decide +kernel
theorem st_c31 : stZ (stI.getD 31 []) (stC 31) = true := by decide +kernel
theorem st_c32 : stZ (stI.getD 32 []) (stC 32) = true := by decide +kernel
theorem st_c33 : stZ (stI.getD 33 []) (stC 33) = true := by decide +kernel
theorem st_c34 : stZ (stI.getD 34 []) (stC 34) = true := by decide +kernel
theorem st_c35 : stZ (stI.getD 35 []) (stC 35) = true := by decide +kernel
theorem st_c36 : stZ (stI.getD 36 []) (stC 36) = true := by decide +kernel
theorem st_c37 : stZ (stI.getD 37 []) (stC 37) = true := by decide +kernel
theorem st_c38 : stZ (stI.getD 38 []) (stC 38) = true := by decide +kernel
theorem st_c39 : stZ (stI.getD 39 []) (stC 39) = true := by decide +kernel
theorem st_c40 : stZ (stI.getD 40 []) (stC 40) = true := by decide +kernel
theorem st_c41 : stZ (stI.getD 41 []) (stC 41) = true := by decide +kernel
theorem st_c42 : stZ (stI.getD 42 []) (stC 42) = true := by decide +kernel
theorem st_c43 : stZ (stI.getD 43 []) (stC 43) = true := by decide +kernel
theorem st_c44 : stZ (stI.getD 44 []) (stC 44) = true := by decide +kernel
theorem st_c45 : stZ (stI.getD 45 []) (stC 45) = true := by decide +kernel
theorem st_c46 : stZ (stI.getD 46 []) (stC 46) = true := by decide +kernel
theorem st_c47 : stZ (stI.getD 47 []) (stC 47) = true := by decide +kernel
theorem st_c48 : stZ (stI.getD 48 []) (stC 48) = true := by decide +kernel
theorem st_c49 : stZ (stI.getD 49 []) (stC 49) = true := by decide +kernel
theorem st_c50 : stZ (stI.getD 50 []) (stC 50) = true := by decide +kernel
theorem st_c51 : stZ (stI.getD 51 []) (stC 51) = true := by decide +kernel
theorem st_c52 : stZ (stI.getD 52 []) (stC 52) = true := by decide +kernel
theorem st_c53 : stZ (stI.getD 53 []) (stC 53) = true := by decide +kernel
theorem st_c54 : stZ (stI.getD 54 []) (stC 54) = true := by decide +kernel
theorem st_c55 : stZ (stI.getD 55 []) (stC 55) = true := by decide +kernel
theorem st_c56 : stZ (stI.getD 56 []) (stC 56) = true := by decide +kernel
theorem st_c57 : stZ (stI.getD 57 []) (stC 57) = true := by decide +kernel
theorem st_c58 : stZ (stI.getD 58 []) (stC 58) = true := by decide +kernel
theorem st_c59 : stZ (stI.getD 59 []) (stC 59) = true := by decide +kernel
theorem st_c60 : stZ (stI.getD 60 []) (stC 60) = true := by decide +kernel
theorem st_all {i : Nat} (hi : i < 61) : ∀ c ∈ stC i, c ∈ stF := by
  refine stZ_mem (stI.getD i []) _ ?_
  match i, hi with
  | 0, _ => exact st_c0
  | 1, _ => exact st_c1
  | 2, _ => exact st_c2
  | 3, _ => exact st_c3
  | 4, _ => exact st_c4
  | 5, _ => exact st_c5
  | 6, _ => exact st_c6
  | 7, _ => exact st_c7
  | 8, _ => exact st_c8
  | 9, _ => exact st_c9
  | 10, _ => exact st_c10
  | 11, _ => exact st_c11
  | 12, _ => exact st_c12
  | 13, _ => exact st_c13
  | 14, _ => exact st_c14
  | 15, _ => exact st_c15
  | 16, _ => exact st_c16
  | 17, _ => exact st_c17
  | 18, _ => exact st_c18
  | 19, _ => exact st_c19
  | 20, _ => exact st_c20
  | 21, _ => exact st_c21
  | 22, _ => exact st_c22
  | 23, _ => exact st_c23
  | 24, _ => exact st_c24
  | 25, _ => exact st_c25
  | 26, _ => exact st_c26
  | 27, _ => exact st_c27
  | 28, _ => exact st_c28
  | 29, _ => exact st_c29
  | 30, _ => exact st_c30
  | 31, _ => exact st_c31
  | 32, _ => exact st_c32
  | 33, _ => exact st_c33
  | 34, _ => exact st_c34
  | 35, _ => exact st_c35
  | 36, _ => exact st_c36
  | 37, _ => exact st_c37
  | 38, _ => exact st_c38
  | 39, _ => exact st_c39
  | 40, _ => exact st_c40
  | 41, _ => exact st_c41
  | 42, _ => exact st_c42
  | 43, _ => exact st_c43
  | 44, _ => exact st_c44
  | 45, _ => exact st_c45
  | 46, _ => exact st_c46
  | 47, _ => exact st_c47
  | 48, _ => exact st_c48
  | 49, _ => exact st_c49
  | 50, _ => exact st_c50
  | 51, _ => exact st_c51
  | 52, _ => exact st_c52
  | 53, _ => exact st_c53
  | 54, _ => exact st_c54
  | 55, _ => exact st_c55
  | 56, _ => exact st_c56
  | 57, _ => exact st_c57
  | 58, _ => exact st_c58
  | 59, _ => exact st_c59
  | 60, _ => exact st_c60
  | i + 61, h => exact absurd h (by omega)
theorem st_ref : (gSL.all fun q => decide (Cond.stringRef q.1 q.2.1 q.2.2 ∈ lw_tbl)) = true := by decide +kernel
theorem gSL_len : gSL.length = 61 := by decide +kernel
theorem gtx_out {i : Nat} (h : 61 ≤ i) : gtx i = [] := by
  unfold gtx
  rw [List.getD_eq_getElem?_getD, List.getElem?_eq_none (by rw [show gtxL.length = 61 from by decide +kernel]; exact h)]
  rfl
/-- the words' strings, where they lie at the start -/
theorem st_str {args : Array Value} {s : State} {A : Nat → Prop} (hF : ∀ c ∈ stF, c.before args s = true) (hA : ∀ a : Nat, a < s.heap.size → ¬ A a) :
    ∃ aK aV : Nat → Nat, ∀ i : Nat, i < 61 → (stS i).eval args s none [] s = some (.ref (aK i)) ∧ (gtx i ≠ [] → va_O "java/lang/String" (aK i) A s s.heap ∧ va_OF "java/lang/String" "coder" "B" (.int 0) (aK i) A s s.heap ∧ va_OF "java/lang/String" "value" "[B" (.ref (aV i)) (aK i) A s s.heap ∧ va_T .byte (aV i) (gtx i).length (fun j => .int (gi ((gtx i).getD j 0))) A s s.heap) := by
  have h0 : ∀ i : Nat, ∃ q : Nat × Nat, i < 61 → (stS i).eval args s none [] s = some (.ref q.1) ∧ (gtx i ≠ [] → va_O "java/lang/String" q.1 A s s.heap ∧ va_OF "java/lang/String" "coder" "B" (.int 0) q.1 A s s.heap ∧ va_OF "java/lang/String" "value" "[B" (.ref q.2) q.1 A s s.heap ∧ va_T .byte q.2 (gtx i).length (fun j => .int (gi ((gtx i).getD j 0))) A s s.heap) := by
    intro i
    by_cases hi : i < 61
    · have h := st_all hi
      obtain ⟨a, c, cA, kA, q1, q2, q3, q4, q5, q6, -⟩ := Cond.exactly_spec (args := args) (first := s) (o := none) (s := s) (idx := []) (t := stS i) (cls := "java/lang/String") (hF _ (h _ List.mem_cons_self))
      by_cases hg : gtx i = []
      · exact ⟨(a, 0), fun _ => ⟨q1, fun h => absurd hg h⟩⟩
      · have h2 : ∀ c ∈ Cond.eq (.field (stS i) "java/lang/String" "coder" "B") (.int 0) :: Cond.arrayOf (stV i) .byte :: Cond.eq (.length (stV i)) (.int (Int32.ofNat (gtx i).length)) :: (List.range (gtx i).length).map fun j => Cond.eq (.elem (stV i) (.int (Int32.ofNat j))) (.int (gi ((gtx i).getD j 0))), c ∈ stF := by
          intro c hc
          refine h c ?_
          unfold stC
          split
          · rename_i e
            exact absurd e hg
          · exact List.mem_cons_of_mem _ hc
        have c1 := h2 _ List.mem_cons_self
        have c2 := h2 _ (List.mem_cons_of_mem _ List.mem_cons_self)
        have c3 := h2 _ (List.mem_cons_of_mem _ (List.mem_cons_of_mem _ List.mem_cons_self))
        have c4 : ∀ j, j < (gtx i).length → Cond.eq (.elem (stV i) (.int (Int32.ofNat j))) (.int (gi ((gtx i).getD j 0))) ∈ stF := fun j hj => h2 _ (List.mem_cons_of_mem _ (List.mem_cons_of_mem _ (List.mem_cons_of_mem _ (List.mem_map.mpr ⟨j, List.mem_range.mpr hj, rfl⟩))))
        obtain ⟨t, ht, hT⟩ := va_Tof (f := fun j => .int (gi ((gtx i).getD j 0))) (A := A) (by have := gtx_l100 i; omega) (hF _ c2) (va_eqt (hF _ c3)) (fun j hj => va_eqt (hF _ (c4 j hj))) hA
        exact ⟨(a, t), fun _ => ⟨q1, fun _ => ⟨⟨cA, q3, q5, by rw [q6]; exact q2, hA a (Array.getElem?_eq_some_iff.mp q3).1⟩, vk_OFof q1 (va_eqt (hF _ c1)) hA, vk_OFof q1 ht hA, hT⟩⟩⟩
    · exact ⟨(0, 0), fun h => absurd h hi⟩
  obtain ⟨ad, had⟩ := Classical.axiomOfChoice h0
  exact ⟨fun i => (ad i).1, fun i => (ad i).2, fun i hi => had i hi⟩
