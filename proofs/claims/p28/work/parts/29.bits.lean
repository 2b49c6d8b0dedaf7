/-! ===== bits ===== -/
theorem bt_shr0 : ∀ h l : Fin 64, ∀ k : Fin 13, ishr ((64 * (h : Nat) + (l : Nat) : Nat) : Int) ((k : Nat) : Int) = (((64 * (h : Nat) + (l : Nat)) / 2 ^ (k : Nat) : Nat) : Int) := by decide +kernel
theorem bt_and0 : ∀ h l : Fin 64, iand ((64 * (h : Nat) + (l : Nat) : Nat) : Int) 1 = (((64 * (h : Nat) + (l : Nat)) % 2 : Nat) : Int) := by decide +kernel
theorem bt_shl0 : ∀ k : Fin 12, ishl 1 ((k : Nat) : Int) = ((2 ^ (k : Nat) : Nat) : Int) := by decide +kernel
theorem bt_or0 : ∀ h l : Fin 64, ∀ k : Fin 12, ior ((64 * (h : Nat) + (l : Nat) : Nat) : Int) ((2 ^ (k : Nat) : Nat) : Int) = (((64 * (h : Nat) + (l : Nat)) ||| 2 ^ (k : Nat) : Nat) : Int) := by decide +kernel
theorem bt_orn0 : ∀ h l : Fin 16, ior ((h : Nat) : Int) ((l : Nat) : Int) = (((h : Nat) ||| (l : Nat) : Nat) : Int) := by decide +kernel
def bc1 (x : Int) : Int := x - iand (iushr x 1) 1431655765
def bc2 (y : Int) : Int := iand y 858993459 + iand (iushr y 2) 858993459
def bc3 (y : Int) : Int := y + iushr y 4
def bc4 (y : Int) : Int := iand y 252645135 + iushr (iand y 252645135) 8
def bc5 (y : Int) : Int := y + iushr y 16
def pcF (x : Nat) : Nat → Nat
  | 0 => 0
  | k + 1 => pcF x k + (x / 2 ^ k) % 2
theorem bt_c1 : ∀ h l : Fin 64, 0 ≤ bc1 ((64 * (h : Nat) + (l : Nat) : Nat) : Int) ∧ bc1 ((64 * (h : Nat) + (l : Nat) : Nat) : Int) < 4096 := by decide +kernel
theorem bt_c2 : ∀ h l : Fin 64, 0 ≤ bc2 ((64 * (h : Nat) + (l : Nat) : Nat) : Int) ∧ bc2 ((64 * (h : Nat) + (l : Nat) : Nat) : Int) < 4096 := by decide +kernel
theorem bt_c3 : ∀ h l : Fin 64, 0 ≤ bc3 ((64 * (h : Nat) + (l : Nat) : Nat) : Int) ∧ bc3 ((64 * (h : Nat) + (l : Nat) : Nat) : Int) < 8192 := by decide +kernel
theorem bt_c4 : ∀ h : Fin 128, ∀ l : Fin 64, 0 ≤ bc4 ((64 * (h : Nat) + (l : Nat) : Nat) : Int) ∧ bc4 ((64 * (h : Nat) + (l : Nat) : Nat) : Int) < 8192 := by decide +kernel
theorem bt_c5 : ∀ h : Fin 128, ∀ l : Fin 64, bc5 ((64 * (h : Nat) + (l : Nat) : Nat) : Int) = ((64 * (h : Nat) + (l : Nat) : Nat) : Int) := by decide +kernel
theorem bt_c6 : ∀ h l : Fin 64, iand (bc4 (bc3 (bc2 (bc1 ((64 * (h : Nat) + (l : Nat) : Nat) : Int))))) 63 = ((pcF (64 * (h : Nat) + (l : Nat)) 12 : Nat) : Int) := by decide +kernel
