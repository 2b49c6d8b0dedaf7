/-! ===== a number spread ===== -/
theorem ior_00 : ior 0 0 = 0 ∧ ior 0 1 = 1 ∧ ior 1 0 = 1 ∧ ior 1 1 = 1 := by decide +kernel
/-- the facts that count, one after the other -/
noncomputable def spF (c : Int → Int) : Nat → Int → Int
  | 0, _ => 0
  | k + 1, i => if c k ≠ 0 ∧ nC c k = i then k else spF c k i
theorem spF_v {c : Int → Int} : ∀ k y : Nat, y < k → c y ≠ 0 → spF c k (nC c y) = y
  | 0, y, hy, _ => by omega
  | k + 1, y, hy, hc => by
    show (if c k ≠ 0 ∧ nC c k = nC c y then (k : Int) else spF c k (nC c y)) = y
    by_cases hk : y = k
    · rw [if_pos ⟨by rw [← hk]; exact hc, by rw [hk]⟩, hk]
    · have hlt := nC_le c (y + 1) (k - (y + 1))
      rw [show y + 1 + (k - (y + 1)) = k by omega, nC_y hc] at hlt
      rw [if_neg (by omega)]
      exact spF_v k y (by omega) hc
theorem spF_r {c : Int → Int} {K : Nat} {i : Int} (i0 : 0 ≤ i) (i1 : i < nC c K) : ∃ y : Nat, y < K ∧ c y ≠ 0 ∧ nC c y = i ∧ spF c K i = y := by
  obtain ⟨y, y1, y2, y3⟩ := nC_sur (c := c) K i i0 i1
  exact ⟨y, y1, y2, y3, by rw [← y3]; exact spF_v K y y1 y2⟩
/-- the first of the greatest -/
def gI (R : Int → Int) : Nat → Int
  | 0 => 0
  | k + 1 => if 0 < k ∧ R (gI R k) < R k then k else gI R k
theorem gI_b (R : Int → Int) : ∀ k : Nat, 0 ≤ gI R k ∧ (0 < k → gI R k < k)
  | 0 => ⟨Int.le_refl _, fun h => absurd h (by omega)⟩
  | k + 1 => by
    have ih := gI_b R k
    show 0 ≤ (if 0 < k ∧ R (gI R k) < R k then (k : Int) else gI R k) ∧ (0 < k + 1 → (if 0 < k ∧ R (gI R k) < R k then (k : Int) else gI R k) < ((k + 1 : Nat) : Int))
    by_cases h : 0 < k ∧ R (gI R k) < R k
    · rw [if_pos h]; exact ⟨by omega, fun _ => by omega⟩
    · rw [if_neg h]
      refine ⟨ih.1, fun _ => ?_⟩
      by_cases z : 0 < k
      · have := ih.2 z; omega
      · have z0 : k = 0 := by omega
        subst z0
        have e0 : gI R 0 = 0 := rfl
        omega
theorem gI_c {R R' : Int → Int} : ∀ k : Nat, (∀ i : Int, 0 ≤ i → i < k → R i = R' i) → gI R k = gI R' k
  | 0, _ => rfl
  | k + 1, h => by
    have e := gI_c k (fun i i0 i1 => h i i0 (by omega))
    have b := gI_b R' k
    have b2 : gI R' k < ((k + 1 : Nat) : Int) := by
      by_cases z : 0 < k
      · have := b.2 z; omega
      · have z0 : k = 0 := by omega
        subst z0
        have e0 : gI R' 0 = 0 := rfl
        omega
    show (if 0 < k ∧ R (gI R k) < R k then (k : Int) else gI R k) = if 0 < k ∧ R' (gI R' k) < R' k then (k : Int) else gI R' k
    rw [e, h k (by omega) (by omega), h (gI R' k) b.1 b2]
theorem gI_s {R : Int → Int} {k : Nat} (h : 0 < k) : gI R (k + 1) = if R (gI R k) < R k then (k : Int) else gI R k := by
  show (if 0 < k ∧ R (gI R k) < R k then (k : Int) else gI R k) = _
  by_cases q : R (gI R k) < R k
  · rw [if_pos ⟨h, q⟩, if_pos q]
  · rw [if_neg (fun w => q w.2), if_neg q]
def upF (f : Int → Int) (i v : Int) : Int → Int := fun j => if j = i then v else f j
theorem upF_y {f : Int → Int} {i v j : Int} (h : j = i) : upF f i v j = v := if_pos h
theorem upF_n {f : Int → Int} {i v j : Int} (h : j ≠ i) : upF f i v j = f j := if_neg h
/-- k times one more to the greatest remainder -/
def wtG (N : Nat) (G R : Int → Int) : Nat → (Int → Int) × (Int → Int)
  | 0 => (G, R)
  | k + 1 => (upF (wtG N G R k).1 (gI (wtG N G R k).2 N) ((wtG N G R k).1 (gI (wtG N G R k).2 N) + 1), upF (wtG N G R k).2 (gI (wtG N G R k).2 N) (-1))
theorem wtG_b {N : Nat} {G R : Int → Int} {M : Int} (N0 : 0 < N) (h : ∀ i : Int, 0 ≤ i → i < N → 0 ≤ G i ∧ G i ≤ M) : ∀ (k : Nat) (i : Int), 0 ≤ i → i < N → 0 ≤ (wtG N G R k).1 i ∧ (wtG N G R k).1 i ≤ M + k
  | 0, i, i0, i1 => by have := h i i0 i1; show 0 ≤ G i ∧ G i ≤ M + ((0 : Nat) : Int); omega
  | k + 1, i, i0, i1 => by
    have gb := gI_b (wtG N G R k).2 N
    have ih1 := wtG_b (R := R) N0 h k i i0 i1
    have ih2 := wtG_b (R := R) N0 h k _ gb.1 (gb.2 N0)
    show 0 ≤ upF (wtG N G R k).1 (gI (wtG N G R k).2 N) ((wtG N G R k).1 (gI (wtG N G R k).2 N) + 1) i ∧ upF (wtG N G R k).1 (gI (wtG N G R k).2 N) ((wtG N G R k).1 (gI (wtG N G R k).2 N) + 1) i ≤ M + ((k + 1 : Nat) : Int)
    by_cases q : i = gI (wtG N G R k).2 N
    · rw [upF_y q]; omega
    · rw [upF_n q]; omega
def sm (f : Int → Int) : Nat → Int
  | 0 => 0
  | k + 1 => sm f k + f k
theorem sm_s (f : Int → Int) (k : Nat) : sm f (k + 1) = sm f k + f k := rfl
theorem sm_b {f : Int → Int} {U : Int} : ∀ k : Nat, (∀ i : Int, 0 ≤ i → i < k → -U ≤ f i ∧ f i ≤ U) → -(U * k) ≤ sm f k ∧ sm f k ≤ U * k
  | 0, _ => by have e : sm f 0 = 0 := rfl; rw [e]; simp
  | k + 1, h => by
    have ih := sm_b k (fun i i0 i1 => h i i0 (by omega))
    have hk := h k (by omega) (by omega)
    have e2 : U * ((k + 1 : Nat) : Int) = U * k + U := by rw [show ((k + 1 : Nat) : Int) = (k : Int) + 1 by omega, Int.mul_add, Int.mul_one]
    rw [sm_s, e2]; omega
theorem sm_c {f g : Int → Int} : ∀ k : Nat, (∀ i : Int, 0 ≤ i → i < k → f i = g i) → sm f k = sm g k
  | 0, _ => rfl
  | k + 1, h => by rw [sm_s, sm_s, sm_c k (fun i i0 i1 => h i i0 (by omega)), h k (by omega) (by omega)]
/-- what the weights leave -/
theorem lft_b {own : Int → Int} {N : Nat} {v A : Int} (hA : A = sm own N) (A0 : 0 < A) (v0 : 0 ≤ v) (h0 : ∀ i : Int, 0 ≤ i → i < N → 0 ≤ own i) : 0 ≤ v - sm (fun i => (v * own i).tdiv A) N ∧ v - sm (fun i => (v * own i).tdiv A) N ≤ N := by
  have key : ∀ k : Nat, k ≤ N → v * sm own k = A * sm (fun i => (v * own i).tdiv A) k + sm (fun i => (v * own i).tmod A) k ∧ 0 ≤ sm (fun i => (v * own i).tmod A) k ∧ sm (fun i => (v * own i).tmod A) k ≤ A * k - k := by
    intro k
    induction k with
    | zero => intro _; simp [sm]
    | succ k ih =>
      intro hk
      obtain ⟨i1, i2, i3⟩ := ih (by omega)
      have hp : 0 ≤ v * own k := Int.mul_nonneg v0 (h0 k (by omega) (by omega))
      have d := Int.mul_tdiv_add_tmod (v * own k) A
      have r0 := Int.tmod_nonneg A hp
      have r1 := Int.tmod_lt_of_pos (v * own k) A0
      have e2 : A * ((k + 1 : Nat) : Int) = A * k + A := by rw [show ((k + 1 : Nat) : Int) = (k : Int) + 1 by omega, Int.mul_add, Int.mul_one]
      rw [sm_s, sm_s, sm_s, Int.mul_add, Int.mul_add, e2]
      omega
  obtain ⟨k1, k2, k3⟩ := key N (Nat.le_refl _)
  rw [← hA, Int.mul_comm v A] at k1
  have e : A * (v - sm (fun i => (v * own i).tdiv A) N) = sm (fun i => (v * own i).tmod A) N := by rw [Int.mul_sub]; omega
  generalize v - sm (fun i => (v * own i).tdiv A) N = L at e ⊢
  refine ⟨?_, ?_⟩
  · refine Classical.byContradiction (fun q => ?_)
    have := Int.mul_le_mul_of_nonneg_left (a := L) (b := -1) (c := A) (by omega) (by omega)
    omega
  · refine Classical.byContradiction (fun q => ?_)
    have := Int.mul_le_mul_of_nonneg_left (a := (N : Int) + 1) (b := L) (c := A) (by omega) (by omega)
    rw [Int.mul_add, Int.mul_one] at this
    omega
/-- what each of N facts is given -/
noncomputable def shr (own : Int → Int) (N : Nat) (v h : Int) : Int → Int := if h = 2 then fun i => if i = 0 then v - (sm own N - own 0) else own i else @ite _ (h = 1 ∧ (∀ i : Int, 0 ≤ i → i < N → 0 ≤ own i) ∧ 0 < sm own N) (Classical.propDecidable _) (wtG N (fun i => (v * own i).tdiv (sm own N)) (fun i => (v * own i).tmod (sm own N)) (v - sm (fun i => (v * own i).tdiv (sm own N)) N).toNat).1 fun i => v.tdiv N + (if i < v.tmod N then 1 else 0)
section
variable {own : Int → Int} {N : Nat} {v h : Int}
theorem shr_2 (h2 : h = 2) (i : Int) : shr own N v h i = if i = 0 then v - (sm own N - own 0) else own i := by unfold shr; rw [if_pos h2]
theorem shr_1 (h1 : h = 1 ∧ (∀ i : Int, 0 ≤ i → i < N → 0 ≤ own i) ∧ 0 < sm own N) : shr own N v h = (wtG N (fun i => (v * own i).tdiv (sm own N)) (fun i => (v * own i).tmod (sm own N)) (v - sm (fun i => (v * own i).tdiv (sm own N)) N).toNat).1 := by
  unfold shr; rw [if_neg (by omega), if_pos h1]
theorem shr_0 (h2 : h ≠ 2) (h1 : ¬ (h = 1 ∧ (∀ i : Int, 0 ≤ i → i < N → 0 ≤ own i) ∧ 0 < sm own N)) (i : Int) : shr own N v h i = v.tdiv N + (if i < v.tmod N then 1 else 0) := by
  unfold shr; rw [if_neg h2, if_neg h1]
end
theorem q_b {v x A : Int} (v0 : 0 ≤ v) (v1 : v ≤ 1000000) (x0 : 0 ≤ x) (x1 : x ≤ 1000000) (A0 : 0 < A) : 0 ≤ v * x ∧ v * x ≤ 1000000000000 ∧ 0 ≤ (v * x).tdiv A ∧ (v * x).tdiv A ≤ 1000000000000 ∧ 0 ≤ (v * x).tmod A ∧ (v * x).tmod A < A := by
  have h0 := Int.mul_nonneg v0 x0
  have h1 := Int.mul_le_mul_of_nonneg_left (a := x) (b := 1000000) (c := v) x1 v0
  have h2 := Int.tdiv_nonneg h0 (Int.le_of_lt A0)
  have h3 := Int.tdiv_le_self A h0
  exact ⟨h0, by omega, h2, by omega, Int.tmod_nonneg A h0, Int.tmod_lt_of_pos _ A0⟩
theorem eq_b {v : Int} {N : Nat} (v0 : 0 ≤ v) (v1 : v ≤ 1000000) (N0 : 0 < N) : 0 ≤ v.tdiv N ∧ v.tdiv N ≤ 1000000 := by
  have h2 := Int.tdiv_nonneg v0 (show (0 : Int) ≤ (N : Int) by omega)
  have h3 := Int.tdiv_le_self (N : Int) v0
  exact ⟨h2, by omega⟩
