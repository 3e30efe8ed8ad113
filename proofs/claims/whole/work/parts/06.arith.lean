/-! Numbers: the machine's ints and longs as whole numbers in their range -/
def gRI (x : Int) : Prop := -2147483648 ≤ x ∧ x < 2147483648
def gRL (x : Int) : Prop := -9223372036854775808 ≤ x ∧ x < 9223372036854775808
def gi (x : Int) : Int32 := Int32.ofInt x
def gj (x : Int) : Int64 := Int64.ofInt x
def gwi (x : Int) : Int := (x + 2147483648) % 4294967296 - 2147483648
def gwl (x : Int) : Int := (x + 9223372036854775808) % 18446744073709551616 - 9223372036854775808
def gwb (x : Int) : Int := (x + 128) % 256 - 128
theorem gwi_r (x : Int) : gRI (gwi x) := by unfold gRI gwi; omega
theorem gwl_r (x : Int) : gRL (gwl x) := by unfold gRL gwl; omega
theorem gwb_r (x : Int) : gRI (gwb x) := by unfold gRI gwb; omega
theorem gwi_id {x : Int} (h : gRI x) : gwi x = x := by unfold gRI at h; unfold gwi; omega
theorem gwl_id {x : Int} (h : gRL x) : gwl x = x := by unfold gRL at h; unfold gwl; omega
theorem gRI_L {x : Int} (h : gRI x) : gRL x := by unfold gRI at h; unfold gRL; omega
theorem gwi_bmod (x : Int) : gwi x = x.bmod (2 ^ 32) := by
  unfold gwi
  rw [Int.bmod_def]
  have hc : ((2 ^ 32 : Nat) : Int) = 4294967296 := rfl
  rw [hc]
  split <;> omega
theorem gwl_bmod (x : Int) : gwl x = x.bmod (2 ^ 64) := by
  unfold gwl
  rw [Int.bmod_def]
  have hc : ((2 ^ 64 : Nat) : Int) = 18446744073709551616 := rfl
  rw [hc]
  split <;> omega
theorem gwb_bmod (x : Int) : gwb x = x.bmod (2 ^ 8) := by
  unfold gwb
  rw [Int.bmod_def]
  have hc : ((2 ^ 8 : Nat) : Int) = 256 := rfl
  rw [hc]
  split <;> omega
theorem gi_toIntW (x : Int) : (gi x).toInt = gwi x := by rw [gwi_bmod]; exact Int32.toInt_ofInt
theorem gj_toIntW (x : Int) : (gj x).toInt = gwl x := by rw [gwl_bmod]; exact Int64.toInt_ofInt
theorem gi_toInt {x : Int} (h : gRI x) : (gi x).toInt = x := by rw [gi_toIntW, gwi_id h]
theorem gj_toInt {x : Int} (h : gRL x) : (gj x).toInt = x := by rw [gj_toIntW, gwl_id h]
theorem gi_of (x : Int32) : gi x.toInt = x := Int32.ofInt_toInt x
theorem gj_of (x : Int64) : gj x.toInt = x := Int64.ofInt_toInt x
theorem gi_r (x : Int32) : gRI x.toInt := ⟨by have := Int32.le_toInt x; omega, by have := Int32.toInt_lt x; omega⟩
theorem gj_r (x : Int64) : gRL x.toInt := ⟨by have := Int64.le_toInt x; omega, by have := Int64.toInt_lt x; omega⟩
theorem gi_w (x : Int) : gi (gwi x) = gi x := by rw [← gi_of (gi x), gi_toIntW]
theorem gj_w (x : Int) : gj (gwl x) = gj x := by rw [← gj_of (gj x), gj_toIntW]
theorem gi_eq {x y : Int} (hx : gRI x) (hy : gRI y) : gi x = gi y ↔ x = y := ⟨fun h => by rw [← gi_toInt hx, ← gi_toInt hy, h], fun h => by rw [h]⟩
theorem gj_eq {x y : Int} (hx : gRL x) (hy : gRL y) : gj x = gj y ↔ x = y := ⟨fun h => by rw [← gj_toInt hx, ← gj_toInt hy, h], fun h => by rw [h]⟩
theorem gi_lt {x y : Int} (hx : gRI x) (hy : gRI y) : gi x < gi y ↔ x < y := by rw [Int32.lt_iff_toInt_lt, gi_toInt hx, gi_toInt hy]
theorem gi_le {x y : Int} (hx : gRI x) (hy : gRI y) : gi x ≤ gi y ↔ x ≤ y := by rw [Int32.le_iff_toInt_le, gi_toInt hx, gi_toInt hy]
theorem gj_lt {x y : Int} (hx : gRL x) (hy : gRL y) : gj x < gj y ↔ x < y := by rw [Int64.lt_iff_toInt_lt, gj_toInt hx, gj_toInt hy]
theorem gi_add (x y : Int) : gi x + gi y = gi (gwi (x + y)) := by rw [gi_w]; exact (Int32.ofInt_add x y).symm
theorem gi_sub (x y : Int) : gi x - gi y = gi (gwi (x - y)) := by rw [gi_w]; exact (Int32.ofInt_sub x y).symm
theorem gi_mul (x y : Int) : gi x * gi y = gi (gwi (x * y)) := by rw [gi_w]; exact (Int32.ofInt_mul x y).symm
theorem gi_neg (x : Int) : -gi x = gi (gwi (-x)) := by rw [gi_w]; exact (Int32.ofInt_neg x).symm
theorem gj_add (x y : Int) : gj x + gj y = gj (gwl (x + y)) := by rw [gj_w]; exact (Int64.ofInt_add x y).symm
theorem gj_sub (x y : Int) : gj x - gj y = gj (gwl (x - y)) := by rw [gj_w]; exact (Int64.ofInt_sub x y).symm
theorem gj_mul (x y : Int) : gj x * gj y = gj (gwl (x * y)) := by rw [gj_w]; exact (Int64.ofInt_mul x y).symm
theorem gi_div {x y : Int} (hx : gRI x) (hy : gRI y) : gi x / gi y = gi (gwi (x.tdiv y)) := by
  rw [gi_w, ← gi_of (gi x / gi y), Int32.toInt_div, gi_toInt hx, gi_toInt hy, ← gwi_bmod, gi_w]
theorem gi_rem {x y : Int} (hx : gRI x) (hy : gRI y) : gi x - gi x / gi y * gi y = gi (x.tmod y) := by
  rw [gi_div hx hy, gi_mul, gi_sub, gi_w]
  rw [← gi_w, ← gi_w (x.tmod y)]
  congr 1
  have h : x.tmod y = x - x.tdiv y * y := by rw [Int.tmod_def, Int.mul_comm]
  rw [h]
  have e1 : gwi (gwi (x.tdiv y) * y) = gwi (x.tdiv y * y) := by
    simp only [gwi_bmod]
    simp [Int.bmod_mul_bmod, Int.mul_bmod]
  have e2 : gwi (x - gwi (gwi (x.tdiv y) * y)) = gwi (x - x.tdiv y * y) := by
    rw [e1]
    simp only [gwi_bmod]
    simp [Int.sub_bmod, Int.bmod_sub_bmod]
  exact e2
theorem gtmod_r {x y : Int} (hx : gRI x) : gRI (x.tmod y) := by
  have h1 : (x.tmod y).natAbs ≤ x.natAbs := by
    rw [Int.natAbs_tmod]
    exact Nat.mod_le _ _
  have h2 : x < 0 → x.tmod y ≤ 0 := fun h => by
    have h3 : 0 ≤ (-x).tmod y := Int.tmod_nonneg y (by omega)
    rw [Int.neg_tmod] at h3
    omega
  unfold gRI at hx ⊢
  omega
/-- the bits of whole numbers -/
def gand (x y : Int) : Int := (gi x &&& gi y).toInt
def gor (x y : Int) : Int := (gi x ||| gi y).toInt
def gxor (x y : Int) : Int := (gi x ^^^ gi y).toInt
def gshl (x y : Int) : Int := (gi x <<< (gi y &&& 31)).toInt
def gshr (x y : Int) : Int := (gi x >>> (gi y &&& 31)).toInt
def glor (x y : Int) : Int := (gj x ||| gj y).toInt
def gland (x y : Int) : Int := (gj x &&& gj y).toInt
def glshl (x y : Int) : Int := (gj x <<< ((gi y).toInt64 &&& 63)).toInt
def glshr (x y : Int) : Int := (gj x >>> ((gi y).toInt64 &&& 63)).toInt
def glcmp (x y : Int) : Int := if x < y then -1 else if x = y then 0 else 1
theorem gand_i (x y : Int) : gi x &&& gi y = gi (gand x y) := (gi_of _).symm
theorem gor_i (x y : Int) : gi x ||| gi y = gi (gor x y) := (gi_of _).symm
theorem gxor_i (x y : Int) : gi x ^^^ gi y = gi (gxor x y) := (gi_of _).symm
theorem gshl_i (x y : Int) : gi x <<< (gi y &&& 31) = gi (gshl x y) := (gi_of _).symm
theorem gshr_i (x y : Int) : gi x >>> (gi y &&& 31) = gi (gshr x y) := (gi_of _).symm
theorem glor_j (x y : Int) : gj x ||| gj y = gj (glor x y) := (gj_of _).symm
theorem gland_j (x y : Int) : gj x &&& gj y = gj (gland x y) := (gj_of _).symm
theorem glshl_j (x y : Int) : gj x <<< ((gi y).toInt64 &&& 63) = gj (glshl x y) := (gj_of _).symm
theorem glshr_j (x y : Int) : gj x >>> ((gi y).toInt64 &&& 63) = gj (glshr x y) := (gj_of _).symm
theorem glcmp_r (x y : Int) : gRI (glcmp x y) := by unfold glcmp gRI; split <;> (try split) <;> omega
theorem gi2l {x : Int} (h : gRI x) : (gi x).toInt64 = gj x := by
  rw [← gj_of (gi x).toInt64, Int32.toInt_toInt64, gi_toInt h]
theorem gl2i (x : Int) : (gj x).toInt32 = gi (gwi x) := by
  rw [gi_w, ← gi_of (gj x).toInt32, Int64.toInt_toInt32, gj_toIntW, ← gwi_bmod]
  rw [← gi_w x, ← gi_w]
  congr 1
  unfold gwi gwl
  omega
theorem gi2b (x : Int) : (gi x).toInt8.toInt32 = gi (gwb x) := by
  rw [← gi_of (gi x).toInt8.toInt32, Int8.toInt_toInt32, Int32.toInt_toInt8, gi_toIntW, ← gwb_bmod]
  congr 1
  unfold gwi gwb
  omega
theorem gclamp {x : Int} (h : gRI x) : (gi x).toNatClampNeg = x.toNat := by
  show (gi x).toInt.toNat = x.toNat
  rw [gi_toInt h]
theorem gin {x : Int} {n : Nat} (h : gRI x) (h0 : 0 ≤ x ∧ x < (n : Int)) : vp_in (gi x) n := by
  rw [vp_in_iff, gi_toInt h]; exact h0
theorem gneg {x : Int} (h : gRI x) (h0 : 0 ≤ x) : ¬ gi x < 0 := by
  have : gi x < gi 0 ↔ x < 0 := gi_lt h ⟨by omega, by omega⟩
  intro q
  have q2 : gi x < gi 0 := q
  rw [this] at q2
  omega
