/-! ===== bits, as they are used ===== -/
theorem bt_sp {x : Int} (h0 : 0 ≤ x) (h1 : x < 4096) : ∃ h l : Fin 64, x = ((64 * (h : Nat) + (l : Nat) : Nat) : Int) :=
  ⟨⟨x.toNat / 64, by omega⟩, ⟨x.toNat % 64, by omega⟩, by show x = ((64 * (x.toNat / 64) + x.toNat % 64 : Nat) : Int); omega⟩
theorem bt_sp2 {x : Int} (h0 : 0 ≤ x) (h1 : x < 8192) : ∃ h : Fin 128, ∃ l : Fin 64, x = ((64 * (h : Nat) + (l : Nat) : Nat) : Int) :=
  ⟨⟨x.toNat / 64, by omega⟩, ⟨x.toNat % 64, by omega⟩, by show x = ((64 * (x.toNat / 64) + x.toNat % 64 : Nat) : Int); omega⟩
theorem bt_k {k : Int} {n : Nat} (h0 : 0 ≤ k) (h1 : k < n) : ∃ q : Fin n, k = ((q : Nat) : Int) := ⟨⟨k.toNat, by omega⟩, by show k = (k.toNat : Int); omega⟩
theorem shr_e {x k : Int} (h0 : 0 ≤ x) (h1 : x < 4096) (k0 : 0 ≤ k) (k1 : k < 13) : ishr x k = x / 2 ^ k.toNat := by
  obtain ⟨h, l, rfl⟩ := bt_sp h0 h1
  obtain ⟨q, rfl⟩ := bt_k k0 k1
  rw [bt_shr0 h l q]
  simp
theorem and1_e {x : Int} (h0 : 0 ≤ x) (h1 : x < 4096) : iand x 1 = x % 2 := by
  obtain ⟨h, l, rfl⟩ := bt_sp h0 h1
  rw [bt_and0 h l]
  simp
theorem div_r {x : Int} {k : Nat} (h0 : 0 ≤ x) (h1 : x < 4096) : 0 ≤ x / 2 ^ k ∧ x / 2 ^ k < 4096 := by
  have hp : (0 : Int) < 2 ^ k := Int.pow_pos (by omega)
  refine ⟨Int.ediv_nonneg h0 (by omega), ?_⟩
  have := Int.ediv_le_self (2 ^ k) h0
  omega
theorem sb_e {x k : Int} (h0 : 0 ≤ x) (h1 : x < 4096) (k0 : 0 ≤ k) (k1 : k < 13) : iand (ishr x k) 1 = (x / 2 ^ k.toNat) % 2 := by
  rw [shr_e h0 h1 k0 k1]
  exact and1_e (div_r h0 h1).1 (div_r h0 h1).2
theorem sb_1 {x k : Int} (h0 : 0 ≤ x) (h1 : x < 4096) (k0 : 0 ≤ k) (k1 : k < 13) : iand (ishr x k) 1 = 1 ↔ bitP x k := by
  rw [sb_e h0 h1 k0 k1]
theorem sb_0 {x k : Int} (h0 : 0 ≤ x) (h1 : x < 4096) (k0 : 0 ≤ k) (k1 : k < 13) : iand (ishr x k) 1 = 0 ↔ ¬ bitP x k := by
  rw [sb_e h0 h1 k0 k1]
  unfold bitP
  omega
theorem sb_r {x k : Int} (h0 : 0 ≤ x) (h1 : x < 4096) (k0 : 0 ≤ k) (k1 : k < 13) : 0 ≤ iand (ishr x k) 1 ∧ iand (ishr x k) 1 ≤ 1 := by
  rw [sb_e h0 h1 k0 k1]
  omega
theorem shl_e {k : Int} (k0 : 0 ≤ k) (k1 : k < 12) : ishl 1 k = 2 ^ k.toNat := by
  obtain ⟨q, rfl⟩ := bt_k k0 k1
  rw [bt_shl0 q]
  simp
theorem bit_nat {x k : Nat} : bitP (x : Int) (k : Int) ↔ x.testBit k = true := by
  unfold bitP
  rw [Nat.testBit_eq_decide_div_mod_eq]
  simp only [Int.toNat_natCast, decide_eq_true_eq]
  have e : (x : Int) / 2 ^ k % 2 = ((x / 2 ^ k % 2 : Nat) : Int) := by simp
  rw [e]
  omega
theorem or_r {x k : Int} (h0 : 0 ≤ x) (h1 : x < 4096) (k0 : 0 ≤ k) (k1 : k < 12) : 0 ≤ ior x (ishl 1 k) ∧ ior x (ishl 1 k) < 4096 ∧ ∀ j : Int, 0 ≤ j → (bitP (ior x (ishl 1 k)) j ↔ (bitP x j ∨ j = k)) := by
  obtain ⟨h, l, rfl⟩ := bt_sp h0 h1
  obtain ⟨q, rfl⟩ := bt_k k0 k1
  rw [bt_shl0 q, bt_or0 h l q]
  refine ⟨by omega, ?_, ?_⟩
  · have : (64 * (h : Nat) + (l : Nat)) ||| 2 ^ (q : Nat) < 2 ^ 12 := Nat.or_lt_two_pow (by omega) (Nat.pow_lt_pow_right (by omega) q.2)
    omega
  · intro j hj
    obtain ⟨i, rfl⟩ : ∃ i : Nat, j = i := ⟨j.toNat, by omega⟩
    rw [bit_nat, bit_nat, Nat.testBit_or, Nat.testBit_two_pow]
    simp only [Bool.or_eq_true, decide_eq_true_eq]
    rw [show ((i : Nat) : Int) = ((q : Nat) : Int) ↔ (q : Nat) = i from ⟨fun h => by omega, fun h => by omega⟩]
theorem orn_r {x y : Int} (h0 : 0 ≤ x) (h1 : x < 16) (k0 : 0 ≤ y) (k1 : y < 16) : 0 ≤ ior x y ∧ ior x y < 16 ∧ ∀ j : Int, 0 ≤ j → (bitP (ior x y) j ↔ (bitP x j ∨ bitP y j)) := by
  obtain ⟨p, rfl⟩ := bt_k h0 h1
  obtain ⟨q, rfl⟩ := bt_k k0 k1
  rw [bt_orn0 p q]
  refine ⟨by omega, ?_, ?_⟩
  · have : (p : Nat) ||| (q : Nat) < 2 ^ 4 := Nat.or_lt_two_pow (by omega) (by omega)
    omega
  · intro j hj
    obtain ⟨i, rfl⟩ : ∃ i : Nat, j = i := ⟨j.toNat, by omega⟩
    rw [bit_nat, bit_nat, bit_nat, Nat.testBit_or]
    simp only [Bool.or_eq_true]
theorem pow_bit {k j : Int} (k0 : 0 ≤ k) (j0 : 0 ≤ j) : bitP (2 ^ k.toNat) j ↔ j = k := by
  obtain ⟨p, rfl⟩ : ∃ i : Nat, k = i := ⟨k.toNat, by omega⟩
  obtain ⟨q, rfl⟩ : ∃ i : Nat, j = i := ⟨j.toNat, by omega⟩
  have : ((2 : Int) ^ ((p : Int)).toNat) = ((2 ^ p : Nat) : Int) := by simp
  rw [this, bit_nat, Nat.testBit_two_pow]
  simp only [decide_eq_true_eq]
  omega
theorem e_bitCount (σ : Hp) {x : Int} (h0 : 0 ≤ x) (h1 : x < 4096) : f_JI_bitCount σ x = some ((pcF x.toNat 12 : Nat) : Int) := by
  have e1 : 0 ≤ bc1 x ∧ bc1 x < 4096 := by obtain ⟨h, l, rfl⟩ := bt_sp h0 h1; exact bt_c1 h l
  have e2 : 0 ≤ bc2 (bc1 x) ∧ bc2 (bc1 x) < 4096 := by obtain ⟨h, l, e⟩ := bt_sp e1.1 e1.2; rw [e]; exact bt_c2 h l
  have e3 : 0 ≤ bc3 (bc2 (bc1 x)) ∧ bc3 (bc2 (bc1 x)) < 8192 := by obtain ⟨h, l, e⟩ := bt_sp e2.1 e2.2; rw [e]; exact bt_c3 h l
  have e4 : 0 ≤ bc4 (bc3 (bc2 (bc1 x))) ∧ bc4 (bc3 (bc2 (bc1 x))) < 8192 := by obtain ⟨h, l, e⟩ := bt_sp2 e3.1 e3.2; rw [e]; exact bt_c4 h l
  have e5 : bc5 (bc4 (bc3 (bc2 (bc1 x)))) = bc4 (bc3 (bc2 (bc1 x))) := by obtain ⟨h, l, e⟩ := bt_sp2 e4.1 e4.2; rw [e]; exact bt_c5 h l
  have e6 : iand (bc4 (bc3 (bc2 (bc1 x)))) 63 = ((pcF x.toNat 12 : Nat) : Int) := by
    obtain ⟨h, l, rfl⟩ := bt_sp h0 h1
    exact bt_c6 h l
  show grd (r32 (bc1 x)) (grd (r32 (bc2 (bc1 x))) (grd (r32 (bc3 (bc2 (bc1 x)))) (grd (r32 (bc4 (bc3 (bc2 (bc1 x))))) (grd (r32 (bc5 (bc4 (bc3 (bc2 (bc1 x)))))) (some (iand (bc5 (bc4 (bc3 (bc2 (bc1 x))))) 63)))))) = _
  rw [e5, e6, grd_t (by unfold r32; omega), grd_t (by unfold r32; omega), grd_t (by unfold r32; omega), grd_t (by unfold r32; omega), grd_t (by unfold r32; omega)]
