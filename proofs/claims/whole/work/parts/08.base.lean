/-! The world of the two systems: every object lies at its place of the layout, its numbers are those of a memory M, its references those of Rm -/
abbrev gMem : Type := Nat → Nat → Int
/-- where the layout begins; the classes; the places of their fields; the array classes by kind; the strings; their bytes -/
abbrev gW : Type := Nat × (Nat → ClassId) × (Nat → Nat → Nat) × (Nat → ClassId) × (Nat → Nat) × (Nat → Nat)
def gup (M : gMem) (a k : Nat) (v : Int) : gMem := fun x j => if x = a ∧ j = k then v else M x j
def gcp (M : gMem) (sa sp da dp n : Nat) : gMem := fun x j => if x = da ∧ dp ≤ j ∧ j < dp + n then M sa (sp + (j - dp)) else M x j
def gvR (w : gW) (e : Nat) : Value := if e = 0 then .null else .ref (w.1 + e)
def grO (w : gW) (e : Nat) : Option Nat := if e = 0 then none else some (w.1 + e)
def gfv (w : gW) (Rm : Nat → Nat → Nat) (M : gMem) (a k q : Nat) : Value := if q = 2 then gvR w (Rm a k) else if q = 1 then .long (gj (M a k)) else .int (gi (M a k))
def gfs (w : gW) (Rm : Nat → Nat → Nat) (M : gMem) (t a : Nat) : List Value := (gfk t).mapIdx (fun k q => gfv w Rm M a k q)
def gar (w : gW) (Rm : Nat → Nat → Nat) (M : gMem) (kd a : Nat) : (Nat → Int32) ⊕ (Nat → Int64) ⊕ (Nat → UInt32) ⊕ (Nat → UInt64) ⊕ (Nat → Option Nat) :=
  if kd = 3 then .inr (.inl (fun j => gj (M a j))) else if kd < 3 then .inl (fun j => gi (M a j)) else .inr (.inr (.inr (.inr (fun j => grO w (Rm a j)))))
def gen (w : gW) (Rm : Nat → Nat → Nat) (M : gMem) (a : Nat) : va_E :=
  if gsh a < 16 then .inr (gsh a - 1, gfs w Rm M (gsh a) a) else .inl (w.2.2.2.1 (gsh a % 16), gsh a / 16 - 1, gar w Rm M (gsh a % 16) a)
def gws (w : gW) (n : Nat) (Rm : Nat → Nat → Nat) (M : gMem) : va_W := (List.range n).map (fun i => (w.1 + (i + 1), gen w Rm M (i + 1)))
def gty (w : gW) : List (ClassId × FieldType) := [(w.2.2.2.1 0, .int), (w.2.2.2.1 1, .byte), (w.2.2.2.1 2, .boolean), (w.2.2.2.1 3, .long), (w.2.2.2.1 4, .object RX4), (w.2.2.2.1 5, .object RX3), (w.2.2.2.1 6, .object RX0)]
def glg (t k : Nat) : Bool := if t < 16 then (gfk t).getD k 0 == 1 else t % 16 == 3
def gRG (M : gMem) : Prop := ∀ a k, if glg (gsh a) k = true then gRL (M a k) else gRI (M a k)
def gA (w : gW) : Nat → Prop := fun q => w.1 < q
abbrev gDD (w : gW) : va_G := (w.2.1, w.2.2.1)
def gG : List Cond := lw_tbl.filter goodWord
theorem gG_good : ∀ x ∈ gG, ((x.onTables && x.keeps) = true ∨ ∃ ty, x = .arrayClass ty) := fun _ h => good_of_word (List.mem_filter.mp h).2
theorem gG_in {x : Cond} (i : Nat) (h : lw_tbl[i]? = some x) (hg : goodWord x = true) : x ∈ gG := List.mem_filter.mpr ⟨List.mem_of_getElem? h, hg⟩
theorem gws_at {w : gW} {n : Nat} {Rm : Nat → Nat → Nat} {M : gMem} {a : Nat} (h0 : 1 ≤ a) (hn : a ≤ n) : (gws w n Rm M)[a - 1]? = some (w.1 + a, gen w Rm M a) := by
  unfold gws
  rw [List.getElem?_map, List.getElem?_range (by omega)]
  have : a - 1 + 1 = a := by omega
  simp [this]
theorem gws_set {w : gW} {n : Nat} {Rm : Nat → Nat → Nat} {M M' : gMem} {a : Nat} {e : va_E} (h0 : 1 ≤ a) (he : e = gen w Rm M' a) (hb : ∀ b, b ≠ a → gen w Rm M' b = gen w Rm M b) : (gws w n Rm M).set (a - 1) (w.1 + a, e) = gws w n Rm M' := by
  apply List.ext_getElem?
  intro i
  unfold gws
  rw [List.getElem?_set]
  by_cases hi : a - 1 = i
  · subst hi
    rw [if_pos rfl]
    have h1 : a - 1 + 1 = a := by omega
    by_cases hn : a - 1 < n
    · rw [if_pos (by simpa using hn), List.getElem?_map, List.getElem?_range hn]
      simp [h1, he]
    · rw [if_neg (by simpa using hn), List.getElem?_eq_none (by simp; omega)]
  · rw [if_neg hi, List.getElem?_map, List.getElem?_map]
    by_cases hn : i < n
    · rw [List.getElem?_range hn]
      simp only [Option.map_some]
      rw [hb (i + 1) (by omega)]
    · rw [List.getElem?_eq_none (by simp; omega)]
      rfl
theorem gD (w : gW) (n : Nat) (Rm : Nat → Nat → Nat) (M : gMem) : va_D (gA w) (gws w n Rm M) := by
  refine ⟨fun i j p q hi hj h => ?_, fun k q hk => ?_⟩
  · unfold gws at hi hj
    rw [List.getElem?_map] at hi hj
    have hi' : i < n := by
      rcases Nat.lt_or_ge i n with z | z
      · exact z
      · rw [List.getElem?_eq_none (by simpa using z)] at hi; cases hi
    have hj' : j < n := by
      rcases Nat.lt_or_ge j n with z | z
      · exact z
      · rw [List.getElem?_eq_none (by simpa using z)] at hj; cases hj
    rw [List.getElem?_range hi'] at hi
    rw [List.getElem?_range hj'] at hj
    simp only [Option.map_some, Option.some.injEq] at hi hj
    subst hi; subst hj
    simp only at h
    omega
  · unfold gws at hk
    obtain ⟨i, -, hi⟩ := List.mem_map.mp (List.mem_of_getElem? hk)
    subst hi
    show w.1 < w.1 + (i + 1)
    omega
theorem gup_ne {M : gMem} {a k : Nat} {v : Int} {b : Nat} (h : b ≠ a) : gup M a k v b = M b := by
  funext j
  unfold gup
  rw [if_neg (fun z => h z.1)]
theorem gen_cong {w : gW} {Rm : Nat → Nat → Nat} {M M' : gMem} {b : Nat} (h : M' b = M b) : gen w Rm M' b = gen w Rm M b := by
  unfold gen gfs gar gfv
  simp only [h]
/-- the text constants: class, its entry, the text; and the signs of those that are words -/
def gSL : List (String × Nat × String) := [("StackDesk$Reader", 38, "desk"), ("StackDesk$Reader", 74, "process"), ("StackDesk$Reader", 111, "turn"), ("StackDesk$Reader", 118, "may"), ("StackDesk$Reader", 214, "push"), ("StackDesk$Reader", 216, "pop"), ("StackDesk$Reader", 218, "dup"), ("StackDesk$Reader", 220, "flip"), ("StackDesk$Reader", 222, "add"), ("StackDesk$Reader", 224, "sub"), ("StackDesk$Reader", 226, "mul"), ("StackDesk$Reader", 228, "say"), ("StackDesk$Reader", 230, "lay"), ("StackDesk$Reader", 232, "take"), ("StackDesk$Reader", 234, "swap"), ("StackDesk$Reader", 236, "jump"), ("StackDesk$Reader", 238, "zero"), ("StackDesk$Reader", 240, "halt"), ("StackDesk$Reader", 147, "stack"), ("StackDesk$Reader", 163, "with"), ("StackDesk$Reader", 168, "at"), ("StackDesk", 68, "the text would be too long"), ("StackDesk", 133, "no such number of the desk"), ("StackDesk", 317, "no such process"), ("StackDesk", 173, "no such number of a process"), ("StackDesk", 319, "no such stack"), ("StackDesk", 195, "no such number of a stack"), ("StackDesk", 324, "no such slot"), ("StackDesk", 211, "no such command"), ("StackDesk", 217, "no such number of a command"), ("StackDesk", 222, "no such step in the trace"), ("StackDesk", 224, "no such number of a step"), ("StackDesk", 262, "turns are 0 to 300"), ("StackDesk", 272, "turns are 1 to 300"), ("StackDesk", 274, "a turn has 1 to 9 steps"), ("StackDesk", 278, "a number is -999999 to 999999"), ("StackDesk", 298, "there is no change to undo"), ("StackDesk", 303, "no such slot for what is saved"), ("StackDesk", 305, "nothing is saved there"), ("StackDesk", 315, "no such byte"), ("StackDeskModel", 222, "desk"), ("StackDeskModel", 184, "process"), ("StackDeskModel", 192, "turn"), ("StackDeskModel", 194, "may"), ("StackDeskModel", 138, "push"), ("StackDeskModel", 140, "pop"), ("StackDeskModel", 142, "dup"), ("StackDeskModel", 144, "flip"), ("StackDeskModel", 146, "add"), ("StackDeskModel", 148, "sub"), ("StackDeskModel", 150, "mul"), ("StackDeskModel", 152, "say"), ("StackDeskModel", 154, "lay"), ("StackDeskModel", 156, "take"), ("StackDeskModel", 158, "swap"), ("StackDeskModel", 160, "jump"), ("StackDeskModel", 162, "zero"), ("StackDeskModel", 164, "halt"), ("StackDeskModel", 227, "stack"), ("StackDeskModel", 210, "with"), ("StackDeskModel", 215, "at")]
def gtxL : List (List Int) := [[100, 101, 115, 107], [112, 114, 111, 99, 101, 115, 115], [116, 117, 114, 110], [109, 97, 121], [112, 117, 115, 104], [112, 111, 112], [100, 117, 112], [102, 108, 105, 112], [97, 100, 100], [115, 117, 98], [109, 117, 108], [115, 97, 121], [108, 97, 121], [116, 97, 107, 101], [115, 119, 97, 112], [106, 117, 109, 112], [122, 101, 114, 111], [104, 97, 108, 116], [115, 116, 97, 99, 107], [119, 105, 116, 104], [97, 116], [], [], [], [], [], [], [], [], [], [], [], [], [], [], [], [], [], [], [], [100, 101, 115, 107], [112, 114, 111, 99, 101, 115, 115], [116, 117, 114, 110], [109, 97, 121], [112, 117, 115, 104], [112, 111, 112], [100, 117, 112], [102, 108, 105, 112], [97, 100, 100], [115, 117, 98], [109, 117, 108], [115, 97, 121], [108, 97, 121], [116, 97, 107, 101], [115, 119, 97, 112], [106, 117, 109, 112], [122, 101, 114, 111], [104, 97, 108, 116], [115, 116, 97, 99, 107], [119, 105, 116, 104], [97, 116]]
def gtx (i : Nat) : List Int := gtxL.getD i []
/-- the words of other kinds that every run keeps -/
def gNw : Cond → Bool
  | .castable .. => true
  | .declares .. => true
  | .methodLinkNest .. => true
  | _ => false
def gNG : List Cond := lw_tbl.filter gNw
theorem gNw_on {x : Cond} (h : gNw x = true) : x.onTables = true := by cases x <;> first | rfl | cases h
theorem gNw_warm {x : Cond} {s U : State} (h : gNw x = true) (hW : s.WarmedH U.vm) (hZ : va_Nw x s) : va_Nw x U := by
  cases x <;> first | exact va_Nw.warmC hW hZ | exact va_Nw.warmD hW hZ | exact va_Nw.warmM hW hZ | cases h
/-- the facts that the tables give, kept by every run -/
def gKF (w : gW) (U : State) : Prop := va_K (gDD w) vwCl (gty w) U ∧ (∀ x ∈ gNG, va_Nw x U) ∧ ∀ (i : Nat) (q : String × Nat × String), gSL[i]? = some q → vk_R q.1 q.2.1 q.2.2 (w.2.2.2.2.1 i) U
theorem gKF.warm {w : gW} {s U : State} (hW : s.WarmedH U.vm) (h : gKF w s) : gKF w U :=
  ⟨va_K.moved hW.alike h.1, fun x hx => gNw_warm (List.mem_filter.mp hx).2 hW (h.2.1 x hx), fun i q hq => vk_R.warm hW (h.2.2 i q hq)⟩
theorem gKF.same {w : gW} {s U : State} (hv : U.vm = s.vm) (h : gKF w s) : gKF w U :=
  ⟨va_K.moved (u := s) (U := U) (by rw [hv]; exact Vm.Alike.refl s.vm) h.1, fun x hx => va_Nw.same (gNw_on (List.mem_filter.mp hx).2) hv.symm (h.2.1 x hx), fun i q hq => vk_R.same hv (h.2.2 i q hq)⟩
/-- the words' contents -/
def gST (w : gW) (U : State) (H : Heap) : Prop := ∀ i : Nat, gtx i ≠ [] → va_O "java/lang/String" (w.2.2.2.2.1 i) (gA w) U H ∧ va_OF "java/lang/String" "coder" "B" (.int 0) (w.2.2.2.2.1 i) (gA w) U H ∧ va_OF "java/lang/String" "value" "[B" (.ref (w.2.2.2.2.2 i)) (w.2.2.2.2.1 i) (gA w) U H ∧
  va_T .byte (w.2.2.2.2.2 i) (gtx i).length (fun j => .int (gi ((gtx i).getD j 0))) (gA w) U H
/-- what lies below the layout and stays -/
def gFix (w : gW) (U : State) (H : Heap) : Prop := vx_Zq Bundle.tN "UNASSIGNED_STACK" Bundle.steD (gA w) U H ∧ vx_Zq Bundle.tN "SUPPRESSED_SENTINEL" Bundle.listD (gA w) U H ∧ gST w U H ∧
  va_Z "java/lang/String" "COMPACT_STRINGS" "Z" (.int 1) (gA w) U H ∧ vx_Zq "jdk/internal/util/Preconditions" "SIOOBE_FORMATTER" "Ljava/util/function/BiFunction;" (gA w) U H
def gH (w : gW) (n : Nat) (Rm : Nat → Nat → Nat) (M : gMem) (s : State) (H : Heap) (locs : List Loc) : Prop := va_P (gDD w) vwCl (gws w n Rm M) H ∧ va_S (gA w) s.heap H locs ∧ gRG M
/-- a world at a method's start -/
def gWD (w : gW) (n : Nat) (Rm : Nat → Nat → Nat) (M : gMem) (U : State) : Prop := gKF w U ∧ gFix w U U.heap ∧ va_P (gDD w) vwCl (gws w n Rm M) U.heap ∧ gRG M
theorem gFix.moved {w : gW} {u U : State} {H : Heap} (hvm : u.vm.Alike U.vm) (h : gFix w u H) : gFix w U H :=
  ⟨vx_Zq.moved hvm h.1, vx_Zq.moved hvm h.2.1, fun i hi => ⟨va_O.moved hvm (h.2.2.1 i hi).1, va_OF.moved hvm (h.2.2.1 i hi).2.1, va_OF.moved hvm (h.2.2.1 i hi).2.2.1, va_T.moved hvm (h.2.2.1 i hi).2.2.2⟩, va_Z.moved hvm h.2.2.2.1, vx_Zq.moved hvm h.2.2.2.2⟩
theorem gFix.kept {w : gW} {U : State} {H H1 : Heap} (h : gFix w U H) (hq : ∀ a : Nat, a < H.size → ¬ gA w a → H1[a]? = H[a]?) : gFix w U H1 :=
  ⟨vx_Zq.kept h.1 hq, vx_Zq.kept h.2.1 hq, fun i hi => ⟨(h.2.2.1 i hi).1.kept hq, (h.2.2.1 i hi).2.1.kept hq, (h.2.2.1 i hi).2.2.1.kept hq, (h.2.2.1 i hi).2.2.2.kept hq⟩, va_Z.kept h.2.2.2.1 hq, vx_Zq.kept h.2.2.2.2 hq⟩
theorem gWD.blind {w : gW} {n : Nat} {Rm : Nat → Nat → Nat} {M : gMem} {U : State} {g : JFrame} {mk : MethodId} {a : Array Value} (h : gWD w n Rm M U) : gWD w n Rm M (U.calling g mk a) :=
  ⟨gKF.same (s := U) (U := U.calling g mk a) rfl h.1, gFix.moved (u := U) (U := U.calling g mk a) (Vm.Alike.refl U.vm) h.2.1, h.2.2.1, h.2.2.2⟩
theorem gWD.at {w : gW} {n : Nat} {Rm : Nat → Nat → Nat} {M : gMem} {s U : State} {H : Heap} {locs : List Loc} (hK : gKF w s) (hF : gFix w s s.heap) (hH : gH w n Rm M s H locs) (hU : U.heap = H) (hW : s.WarmedH U.vm) : gWD w n Rm M U :=
  ⟨gKF.warm hW hK, by rw [hU]; exact gFix.moved hW.alike (hF.kept hH.2.1.2.1), by rw [hU]; exact hH.1, hH.2.2⟩
/-- how a method ends: a value or an exception's class -/
abbrev gOc : Type := String ⊕ Option Value
def gRQ (w : gW) (n : Nat) (Rm : Nat → Nat → Nat) (oc : gOc) (M' : gMem) (P : Prop) : Array Value → State → Outcome → State → Prop := fun _ st o t => P ∧ ∃ v, oc = .inr v ∧ o = .returned v ∧ (va_P (gDD w) vwCl (gws w n Rm M') t.heap ∧ gRG M') ∧ va_F (gA w) st t
def gXQ (w : gW) (n : Nat) (Rm : Nat → Nat → Nat) (oc : gOc) (M' : gMem) : String → State → State → Prop := fun E st t => oc = .inl E ∧ (va_P (gDD w) vwCl (gws w n Rm M') t.heap ∧ gRG M') ∧ va_F (gA w) st t
def gMT (w : gW) (n : Nat) (Rm : Nat → Nat → Nat) (l : Launch) (y : MethodName) (cc : ByteArray) (nL : Nat) (ret : Option FieldType) (fr lo mc ms : Nat) (av : List Value) (M : gMem) (oc : gOc) (M' : gMem) (P : Prop) : Prop :=
  vx_Met l y (.code y cc nL ret :: gG) { frames := fr, cells := mc, slots := ms, locals := lo } (va_Pc av (gWD w n Rm M)) (gRQ w n Rm oc M' P) (gXQ w n Rm oc M') mc ms (gA w)
abbrev gQ (w : gW) (n : Nat) (Rm : Nat → Nat → Nat) (below : List Frame) (args : Array Value) (s : State) (mc ms : Nat) (oc : gOc) (M' : gMem) (P : Prop) : State → Prop := vx_MQ below (gRQ w n Rm oc M' P) (gXQ w n Rm oc M') args s mc ms (gA w)
/-- what a method's body stands on -/
def gMC (w : gW) (p : Program) (l : Launch) (s : State) (m : MethodId) (args : Array Value) (meth : Method) (c : Code) (cc : ByteArray) (nL : Nat) (own : String) (ret : Option FieldType) : Prop :=
  CallFix p m c cc nL s args gG own ∧ gKF w s ∧ gFix w s s.heap ∧ meth.sig.returnType = ret ∧ meth.locks = false ∧ (∀ x ∈ c.exceptionTable.toList, False) ∧ l.stackTraces = false
/-- a named step -/
def gst {α β : Type} (x : α) (f : α → Option β) : Option β := f x
theorem gst_s {α β : Type} {x : α} {f : α → Option β} {r : β} (h : gst x f = some r) : ∃ y, y = x ∧ f y = some r := ⟨x, rfl, h⟩
/-- a call that may throw -/
def gtry {α ρ : Type} (x : Option (Nat ⊕ α)) (kx : Nat → Option ρ) (k : α → Option ρ) : Option ρ := match x with
  | none => none
  | some (.inl e) => kx e
  | some (.inr v) => k v
theorem gtry_s {α ρ : Type} {x : Option (Nat ⊕ α)} {kx : Nat → Option ρ} {k : α → Option ρ} {r : ρ} (h : gtry x kx k = some r) : (∃ e, x = some (.inl e) ∧ kx e = some r) ∨ ∃ v, x = some (.inr v) ∧ k v = some r := by
  cases x with
  | none => cases h
  | some q => cases q with
    | inl e => exact Or.inl ⟨e, rfl, h⟩
    | inr v => exact Or.inr ⟨v, rfl, h⟩
def gtryM {α ρ : Type} (x : Option ((Nat ⊕ α) × gMem)) (kx : Nat → gMem → Option ρ) (k : α → gMem → Option ρ) : Option ρ := match x with
  | none => none
  | some (.inl e, M) => kx e M
  | some (.inr v, M) => k v M
theorem gtryM_s {α ρ : Type} {x : Option ((Nat ⊕ α) × gMem)} {kx : Nat → gMem → Option ρ} {k : α → gMem → Option ρ} {r : ρ} (h : gtryM x kx k = some r) : (∃ e M, x = some (.inl e, M) ∧ kx e M = some r) ∨ ∃ v M, x = some (.inr v, M) ∧ k v M = some r := by
  cases x with
  | none => cases h
  | some q =>
    obtain ⟨q, M⟩ := q
    cases q with
    | inl e => exact Or.inl ⟨e, M, rfl, h⟩
    | inr v => exact Or.inr ⟨v, M, rfl, h⟩
/-- the exceptions by number -/
def gEx : Nat → String
  | 1 => "java/lang/IllegalStateException"
  | 2 => "java/lang/IllegalArgumentException"
  | _ => "java/lang/IndexOutOfBoundsException"
def gmax (x y : Int) : Int := if x < y then y else x
def gmin (x y : Int) : Int := if y < x then y else x
theorem gmax_r {x y : Int} (hx : gRI x) (hy : gRI y) : gRI (gmax x y) := by unfold gmax; split <;> assumption
theorem gmin_r {x y : Int} (hx : gRI x) (hy : gRI y) : gRI (gmin x y) := by unfold gmin; split <;> assumption
/-- the fuel of each loop -/
def gF : Nat := 20000
theorem gif {α : Type} {c : Prop} [Decidable c] {A : Option α} {r : α} (h : (if c then A else none) = some r) : c ∧ A = some r := by
  by_cases hc : c
  · rw [if_pos hc] at h; exact ⟨hc, h⟩
  · rw [if_neg hc] at h; cases h
theorem gbd {α β : Type} {x : Option α} {f : α → Option β} {r : β} (h : x.bind f = some r) : ∃ q, x = some q ∧ f q = some r := by
  cases x with
  | none => cases h
  | some q => exact ⟨q, rfl, h⟩
/-- the start of a method's proof -/
theorem gMT.of {w : gW} {n : Nat} {Rm : Nat → Nat → Nat} {l : Launch} {y : MethodName} {cc : ByteArray} {nL : Nat} {ret : Option FieldType} {fr lo mc ms : Nat} {av : List Value} {M : gMem} {oc : gOc} {M' : gMem} {P : Prop} (hl9 : l.stackTraces = false)
    (hy : plainName y.cls = true) (hn : (lg_sl av).length ≤ nL)
    (body : ∀ (p : Program) (e : Env) (s : State) (m : MethodId) (below : List Frame) (meth : Method) (c : Code), gMC w p l s m av.toArray meth c cc nL y.cls ret → gH w n Rm M s s.heap [] → ∀ ls : Array Slot, lv_has ls nL (lv_args 0 av) →
      W p l e { frames := fr, cells := mc, slots := ms, locals := lo } s m av.toArray below meth c s.heap [] 0 0 (gQ w n Rm below av.toArray s mc ms oc M' P) (F0 m 0 ls [])) :
    gMT w n Rm l y cc nL ret fr lo mc ms av M oc M' P := by
  refine vx_ofW (cc := cc) (maxL := nL) (ret := ret) hy rfl ?_
  intro p e s m args below meth c s₁ B hml htb hv
  obtain ⟨rfl, hK, hF, hP, hR⟩ := hv
  have hts := atoms_spec (ws := .code y cc nL ret :: gG) B.pre
  have hown : s.vm.findClass y.cls = some m.cls := findClass_of_methodNamed B.named
  rw [lg_entry_eq]
  exact body p e s m below meth c ⟨⟨B.exec, B.bytes, hml, hown, fun x hx => hts x (List.mem_cons_of_mem _ hx)⟩, hK, hF, B.returns, B.notSynchronized, htb, hl9⟩ ⟨hP, va_S.rf, hR⟩ _ (lv_entry av hn)
