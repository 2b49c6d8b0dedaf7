/-! ===== numbers: a Java int and a Java long as an Int in its range ===== -/
def w32 (x : Int) : Int := (x + 2147483648) % 4294967296 - 2147483648
def w64 (x : Int) : Int := (x + 9223372036854775808) % 18446744073709551616 - 9223372036854775808
def r32 (x : Int) : Prop := -2147483648 ≤ x ∧ x < 2147483648
def r64 (x : Int) : Prop := -9223372036854775808 ≤ x ∧ x < 9223372036854775808
theorem r32_w32 (x : Int) : r32 (w32 x) := by unfold r32 w32; omega
theorem r64_w64 (x : Int) : r64 (w64 x) := by unfold r64 w64; omega
theorem w32_id {x : Int} (h : r32 x) : w32 x = x := by unfold r32 at h; unfold w32; omega
theorem w64_id {x : Int} (h : r64 x) : w64 x = x := by unfold r64 at h; unfold w64; omega
theorem toInt32_of (x : Int) : (Int32.ofInt x).toInt = w32 x := by
  simp [Int32.toInt_ofInt, Int.bmod, w32]
  omega
theorem toInt64_of (x : Int) : (Int64.ofInt x).toInt = w64 x := by
  simp [Int64.toInt_ofInt, Int.bmod, w64]
  omega
theorem toInt32_r {x : Int} (h : r32 x) : (Int32.ofInt x).toInt = x := by rw [toInt32_of, w32_id h]
theorem toInt64_r {x : Int} (h : r64 x) : (Int64.ofInt x).toInt = x := by rw [toInt64_of, w64_id h]
theorem of_w32 (x : Int) : Int32.ofInt (w32 x) = Int32.ofInt x := by
  apply Int32.toInt_inj.mp
  rw [toInt32_of, toInt32_of, w32_id (r32_w32 x)]
theorem of_w64 (x : Int) : Int64.ofInt (w64 x) = Int64.ofInt x := by
  apply Int64.toInt_inj.mp
  rw [toInt64_of, toInt64_of, w64_id (r64_w64 x)]
theorem i_of (x : Int32) : ∃ v : Int, r32 v ∧ x = Int32.ofInt v := ⟨x.toInt, ⟨by have := x.le_toInt; unfold Int32.minValue at *; simpa using this, by have := x.toInt_lt; simpa using this⟩, by simp⟩
theorem i_le {x y : Int} (hx : r32 x) (hy : r32 y) : Int32.ofInt x ≤ Int32.ofInt y ↔ x ≤ y := by rw [Int32.le_iff_toInt_le, toInt32_r hx, toInt32_r hy]
theorem i_lt {x y : Int} (hx : r32 x) (hy : r32 y) : Int32.ofInt x < Int32.ofInt y ↔ x < y := by rw [Int32.lt_iff_toInt_lt, toInt32_r hx, toInt32_r hy]
theorem i_eq {x y : Int} (hx : r32 x) (hy : r32 y) : Int32.ofInt x = Int32.ofInt y ↔ x = y := by rw [← Int32.toInt_inj, toInt32_r hx, toInt32_r hy]
theorem l_le {x y : Int} (hx : r64 x) (hy : r64 y) : Int64.ofInt x ≤ Int64.ofInt y ↔ x ≤ y := by rw [Int64.le_iff_toInt_le, toInt64_r hx, toInt64_r hy]
theorem l_lt {x y : Int} (hx : r64 x) (hy : r64 y) : Int64.ofInt x < Int64.ofInt y ↔ x < y := by rw [Int64.lt_iff_toInt_lt, toInt64_r hx, toInt64_r hy]
theorem l_eq {x y : Int} (hx : r64 x) (hy : r64 y) : Int64.ofInt x = Int64.ofInt y ↔ x = y := by rw [← Int64.toInt_inj, toInt64_r hx, toInt64_r hy]
theorem i_add (x y : Int) : Int32.ofInt x + Int32.ofInt y = Int32.ofInt (w32 (x + y)) := by rw [of_w32]; exact (Int32.ofInt_add x y).symm
theorem i_sub (x y : Int) : Int32.ofInt x - Int32.ofInt y = Int32.ofInt (w32 (x - y)) := by rw [of_w32]; exact (Int32.ofInt_sub x y).symm
theorem i_mul (x y : Int) : Int32.ofInt x * Int32.ofInt y = Int32.ofInt (w32 (x * y)) := by rw [of_w32]; exact (Int32.ofInt_mul x y).symm
theorem l_add (x y : Int) : Int64.ofInt x + Int64.ofInt y = Int64.ofInt (w64 (x + y)) := by rw [of_w64]; exact (Int64.ofInt_add x y).symm
theorem l_sub (x y : Int) : Int64.ofInt x - Int64.ofInt y = Int64.ofInt (w64 (x - y)) := by rw [of_w64]; exact (Int64.ofInt_sub x y).symm
theorem l_mul (x y : Int) : Int64.ofInt x * Int64.ofInt y = Int64.ofInt (w64 (x * y)) := by rw [of_w64]; exact (Int64.ofInt_mul x y).symm
theorem l_neg (x : Int) : -Int64.ofInt x = Int64.ofInt (w64 (-x)) := by rw [of_w64]; exact (Int64.ofInt_neg x).symm
def idiv (x y : Int) : Int := w32 (x.tdiv y)
def irem (x y : Int) : Int := w32 (x - idiv x y * y)
def ldiv (x y : Int) : Int := w64 (x.tdiv y)
def lrem (x y : Int) : Int := w64 (x - ldiv x y * y)
def iand (x y : Int) : Int := (Int32.ofInt x &&& Int32.ofInt y).toInt
def ior (x y : Int) : Int := (Int32.ofInt x ||| Int32.ofInt y).toInt
def ishl (x y : Int) : Int := (Int32.ofInt x <<< (Int32.ofInt y &&& 31)).toInt
def ishr (x y : Int) : Int := (Int32.ofInt x >>> (Int32.ofInt y &&& 31)).toInt
theorem of_toInt32 (x : Int32) : Int32.ofInt x.toInt = x := by simp
theorem r32_toInt (x : Int32) : r32 x.toInt := by
  have h1 := x.le_toInt
  have h2 := x.toInt_lt
  unfold r32
  simp at h1 h2
  omega
theorem i_div {x y : Int} (hx : r32 x) (hy : r32 y) : Int32.ofInt x / Int32.ofInt y = Int32.ofInt (idiv x y) := by
  apply Int32.toInt_inj.mp
  rw [Int32.toInt_div, toInt32_r hx, toInt32_r hy, idiv, toInt32_of, w32_id (r32_w32 _)]
  unfold w32 Int.bmod
  simp
  omega
theorem l_div {x y : Int} (hx : r64 x) (hy : r64 y) : Int64.ofInt x / Int64.ofInt y = Int64.ofInt (ldiv x y) := by
  apply Int64.toInt_inj.mp
  rw [Int64.toInt_div, toInt64_r hx, toInt64_r hy, ldiv, toInt64_of, w64_id (r64_w64 _)]
  unfold w64 Int.bmod
  simp
  omega
theorem r32_c {x : Int} (h : (decide (-2147483648 ≤ x) && decide (x < 2147483648)) = true) : r32 x := by simpa [r32] using h
theorem r64_c {x : Int} (h : (decide (-9223372036854775808 ≤ x) && decide (x < 9223372036854775808)) = true) : r64 x := by simpa [r64] using h
theorem i_ne0 {y : Int} (hy : r32 y) (h : y ≠ 0) : ¬ Int32.ofInt y = 0 := fun e => h ((i_eq hy (r32_c rfl)).mp (e.trans (show (0 : Int32) = Int32.ofInt 0 from rfl)))
theorem l_ne0 {y : Int} (hy : r64 y) (h : y ≠ 0) : ¬ Int64.ofInt y = 0 := fun e => h ((l_eq hy (r64_c rfl)).mp (e.trans (show (0 : Int64) = Int64.ofInt 0 from rfl)))
theorem i_in {i : Int} {L : Nat} (hi : 0 ≤ i ∧ i < L) (hL : L < 2147483648) : vp_in (Int32.ofInt i) L := by
  have hr : r32 i := by unfold r32; omega
  exact vp_in_iff.mpr (by rw [toInt32_r hr]; exact hi)
theorem i_cl {i : Int} {L : Nat} (hi : 0 ≤ i ∧ i < L) (hL : L < 2147483648) : ((Int32.ofInt i).toNatClampNeg : Int) = i := by
  have hr : r32 i := by unfold r32; omega
  have h1 : (Int32.ofInt i).toNatClampNeg = (Int32.ofInt i).toInt.toNat := by simp [Int32.toNatClampNeg]
  rw [h1, toInt32_r hr]
  omega
