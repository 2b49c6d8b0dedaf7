/-! ===== both sides' arithmetic ===== -/
theorem no_e : (-9223372036854775808 : Int) = zNO := rfl
theorem okv_r {v : Int} (h : okv v) (hn : v ≠ zNO) : -1000000000000 ≤ v ∧ v ≤ 1000000000000 := by
  rcases h with h | h
  · exact absurd h hn
  · exact h
theorem no_r {v : Int} (h : -1000000000000 ≤ v ∧ v ≤ 1000000000000) : v ≠ zNO := by unfold zNO; omega
theorem tdiv_r {x y : Int} (h : -1000000000000000 ≤ x ∧ x ≤ 1000000000000000) : -1000000000000000 ≤ x.tdiv y ∧ x.tdiv y ≤ 1000000000000000 := by
  have := Int.natAbs_tdiv_le_natAbs x y
  omega
theorem bnd_max (v : Int) : max (-1000000000000) (min 1000000000000 v) = bnd v := by
  unfold bnd zMOST; omega
theorem e_C_bounded (σ : Hp) (x : Int) : f_C_bounded σ x = some (bnd x) := by
  unfold f_C_bounded; rw [bnd_max]
theorem rat_no {x y : Int} (h : x = zNO ∨ y = zNO ∨ y = 0) : rat x y = zNO := if_pos h
theorem rat_v {x y : Int} (h1 : x ≠ zNO) (h2 : y ≠ zNO) (h3 : y ≠ 0) : rat x y = bnd ((1000 * x).tdiv y) := if_neg (fun g => by
  rcases g with g | g | g
  · exact h1 g
  · exact h2 g
  · exact h3 g)
theorem pls_no {x y s : Int} (h1 : x = zNO) (h2 : y = zNO) : pls x y s = zNO := if_pos ⟨h1, h2⟩
theorem pls_v {x y s : Int} (h : ¬ (x = zNO ∧ y = zNO)) : pls x y s = bnd ((if x = zNO then 0 else x) + (if y = zNO then 0 else s * y)) := if_neg h
theorem prd_no {x y : Int} (h : x = zNO ∨ y = zNO) : prd x y = zNO := if_pos h
theorem prd_v {x y : Int} (h1 : x ≠ zNO) (h2 : y ≠ zNO) : prd x y = bnd (x * y) := if_neg (fun g => by
  rcases g with g | g
  · exact h1 g
  · exact h2 g)
theorem e_R_ratio (σ : Hp) {x y : Int} (hx : okv x) (hy : okv y) : f_R_ratio σ x y = some (rat x y) := by
  unfold f_R_ratio; apply ok_eq
  simp only [lcm_eq, no_e, ne_eq]
  refine ok_ite (fun h => ok_some (rat_no (Or.inl h)).symm) (fun h => ok_ite (fun h2 => ok_some (rat_no (Or.inr (Or.inl h2))).symm) (fun h2 => ok_ite (fun h3 => ?_) (fun h3 => ok_some (rat_no (Or.inr (Or.inr (Classical.not_not.mp h3)))).symm)))
  have rx := okv_r hx h
  have rt := tdiv_r (x := 1000 * x) (y := y) (by omega)
  rw [rat_v h h2 h3]
  exact ok_grd (by (first | omega | (unfold r32; omega) | (unfold r64; omega) | (simp only [r32, r64] at *; omega))) (ok_grd ⟨h3, by (first | omega | (unfold r32; omega) | (unfold r64; omega) | (simp only [r32, r64] at *; omega))⟩ (ok_eqb (e_C_bounded σ _) (ok_some rfl)))
theorem x0_b {x : Int} (hx : okv x) : -1000000000000 ≤ (if x = zNO then 0 else x) ∧ (if x = zNO then 0 else x) ≤ 1000000000000 := by
  by_cases h : x = zNO
  · rw [if_pos h]; omega
  · rw [if_neg h]; exact okv_r hx h
theorem y0_b {y s : Int} (hy : okv y) (hs : s = 1 ∨ s = -1) : -1000000000000 ≤ (if y = zNO then 0 else s * y) ∧ (if y = zNO then 0 else s * y) ≤ 1000000000000 := by
  by_cases h : y = zNO
  · rw [if_pos h]; omega
  · rw [if_neg h]
    have := okv_r hy h
    rcases hs with rfl | rfl <;> omega
theorem c_pls (σ : Hp) {x y s : Int} (hx : okv x) (hy : okv y) (hs : s = 1 ∨ s = -1) : Okk ((if ¬ x = zNO then some x else some 0 : Option (Int)).bind fun j1 => (if ¬ y = zNO then grd (r64 (s * y)) <| some (s * y) else some 0 : Option (Int)).bind fun j3 => grd (r64 (j1 + j3)) <| (f_C_bounded σ (j1 + j3)).bind fun v7 => some (v7)) fun r => r = bnd ((if x = zNO then 0 else x) + (if y = zNO then 0 else s * y)) := by
  refine ok_call (P := fun r => r = if x = zNO then 0 else x) ?_ ?_
  · exact ok_ite (fun h => ok_some (if_neg h).symm) (fun h => ok_some (if_pos (Classical.not_not.mp h)).symm)
  · rintro r rfl
    refine ok_call (P := fun r => r = if y = zNO then 0 else s * y) ?_ ?_
    · refine ok_ite (fun h => ok_grd ?_ (ok_some (if_neg h).symm)) (fun h => ok_some (if_pos (Classical.not_not.mp h)).symm)
      have := okv_r hy h
      rcases hs with rfl | rfl <;> (first | omega | (unfold r32; omega) | (unfold r64; omega) | (simp only [r32, r64] at *; omega))
    · rintro r rfl
      have h1 := x0_b hx
      have h2 := y0_b hy hs
      exact ok_grd (by (first | omega | (unfold r32; omega) | (unfold r64; omega) | (simp only [r32, r64] at *; omega))) (ok_eqb (e_C_bounded σ _) (ok_some rfl))
theorem e_R_plus (σ : Hp) {x y s : Int} (hx : okv x) (hy : okv y) (hs : s = 1 ∨ s = -1) : f_R_plus σ x y s = some (pls x y s) := by
  unfold f_R_plus; apply ok_eq
  simp only [lcm_eq, no_e, ne_eq]
  refine ok_ite (fun h => ?_) (fun h => ok_ite (fun h2 => ?_) (fun h2 => ok_some ?_))
  · rw [pls_v (fun g => h g.1)]; exact c_pls σ hx hy hs
  · rw [pls_v (fun g => h2 g.2)]; exact c_pls σ hx hy hs
  · exact (pls_no (Classical.not_not.mp h) (Classical.not_not.mp h2)).symm
theorem ab_mul {x y p q : Int} (hp : p = if 0 ≤ x then x else -x) (hq : q = if 0 ≤ y then y else -y) : x * y = (if (0 ≤ x) = (0 ≤ y) then p * q else -(p * q)) := by
  by_cases h : 0 ≤ x <;> by_cases g : 0 ≤ y
  · rw [hp, hq, if_pos h, if_pos g, if_pos (by simp only [h, g])]
  · rw [hp, hq, if_pos h, if_neg g, if_neg (by simp only [h, g]; simp), Int.mul_neg, Int.neg_neg]
  · rw [hp, hq, if_neg h, if_pos g, if_neg (by simp only [h, g]; simp), Int.neg_mul, Int.neg_neg]
  · rw [hp, hq, if_neg h, if_neg g, if_pos (by simp only [h, g]), Int.neg_mul_neg]
theorem far_e {x y p q : Int} (hp : p = if 0 ≤ x then x else -x) (hq : q = if 0 ≤ y then y else -y) (h0 : 0 < p) (h : (1000000000000 : Int).tdiv p < q) : bnd (x * y) = if (0 ≤ x) = (0 ≤ y) then 1000000000000 else -1000000000000 := by
  rw [Int.tdiv_eq_ediv_of_nonneg (by omega)] at h
  have h1 := (Int.ediv_lt_iff_lt_mul h0).mp h
  rw [ab_mul hp hq, Int.mul_comm p q]
  unfold bnd zMOST
  by_cases e : (0 ≤ x) = (0 ≤ y)
  · rw [if_pos e, if_pos e, if_pos h1]
  · rw [if_neg e, if_neg e, if_neg (by omega), if_pos (by omega)]
theorem near_e {x y p q : Int} (hp : p = if 0 ≤ x then x else -x) (hq : q = if 0 ≤ y then y else -y) (h0 : 0 ≤ p) (hq0 : 0 ≤ q) (h : p = 0 ∨ q ≤ (1000000000000 : Int).tdiv p) : -1000000000000 ≤ x * y ∧ x * y ≤ 1000000000000 := by
  have h1 : 0 ≤ p * q ∧ p * q ≤ 1000000000000 := by
    by_cases e : p = 0
    · rw [e]; omega
    · have h2 := h.resolve_left e
      rw [Int.tdiv_eq_ediv_of_nonneg (by omega)] at h2
      have h3 := (Int.le_ediv_iff_mul_le (by omega)).mp h2
      rw [Int.mul_comm] at h3
      exact ⟨Int.mul_nonneg h0 hq0, h3⟩
  rw [ab_mul hp hq]
  by_cases e : (0 ≤ x) = (0 ≤ y)
  · rw [if_pos e]; omega
  · rw [if_neg e]; omega
theorem e_R_product (σ : Hp) {x y : Int} (hx : okv x) (hy : okv y) : f_R_product σ x y = some (prd x y) := by
  unfold f_R_product; apply ok_eq
  simp only [lcm_eq, lcm_le, lcm_ge, no_e, ne_eq]
  refine ok_ite (fun h => ok_some (prd_no (Or.inl h)).symm) (fun h => ok_ite (fun h2 => ?_) (fun h2 => ok_some (prd_no (Or.inr (Classical.not_not.mp h2))).symm))
  have rx := okv_r hx h
  have ry := okv_r hy h2
  rw [prd_v h h2]
  refine ok_ite (fun h3 => ok_some (by rw [h3, Int.zero_mul]; rfl)) (fun h3 => ok_ite (fun h4 => ?_) (fun h4 => ok_some (by rw [Classical.not_not.mp h4, Int.mul_zero]; rfl)))
  have hp : max y (-y) = if 0 ≤ y then y else -y := by omega
  have hq : max x (-x) = if 0 ≤ x then x else -x := by omega
  have hp0 : 0 < max y (-y) := by omega
  have ht := tdiv_r (x := 1000000000000) (y := max y (-y)) (by omega)
  refine ok_grd (by (first | omega | (unfold r32; omega) | (unfold r64; omega) | (simp only [r32, r64] at *; omega))) (ok_grd (by (first | omega | (unfold r32; omega) | (unfold r64; omega) | (simp only [r32, r64] at *; omega))) (ok_grd ⟨by omega, by (first | omega | (unfold r32; omega) | (unfold r64; omega) | (simp only [r32, r64] at *; omega))⟩ (ok_ite (fun h5 => ?_) (fun h5 => ?_))))
  · have hn := near_e hp hq (by omega) (by omega) (Or.inr h5)
    rw [Int.mul_comm] at hn
    refine ok_grd (by (first | omega | (unfold r32; omega) | (unfold r64; omega) | (simp only [r32, r64] at *; omega))) (ok_some (bnd_i (by unfold zMOST; exact hn)).symm)
  · have hf := far_e hp hq hp0 (by omega)
    rw [Int.mul_comm] at hf
    rw [hf]
    by_cases s1 : 0 ≤ x <;> by_cases s2 : 0 ≤ y
    · rw [if_pos s1, if_pos s2, if_pos (by simp only [s1, s2])]
      exact ok_bind (ok_some (ok_bind (ok_some (ok_bind (by rw [if_neg (by simp)]; exact ok_some (ok_some rfl))))))
    · rw [if_pos s1, if_neg s2, if_neg (by simp only [s1, s2]; simp)]
      exact ok_bind (ok_some (ok_bind (ok_some (ok_bind (by rw [if_pos (by simp)]; exact ok_some (ok_some rfl))))))
    · rw [if_neg s1, if_pos s2, if_neg (by simp only [s1, s2]; simp)]
      exact ok_bind (ok_some (ok_bind (ok_some (ok_bind (by rw [if_pos (by simp)]; exact ok_some (ok_some rfl))))))
    · rw [if_neg s1, if_neg s2, if_pos (by simp only [s1, s2])]
      exact ok_bind (ok_some (ok_bind (ok_some (ok_bind (by rw [if_neg (by simp)]; exact ok_some (ok_some rfl))))))
theorem e_R_joined (σ : Hp) {w x y : Int} (hx : okv x) (hy : okv y) : f_R_joined σ w x y = some (jnd w x y) := by
  unfold f_R_joined jnd; apply ok_eq
  by_cases h3 : w = 3
  · rw [if_pos h3, if_pos h3, if_neg (by intro g; exact g h3)]
    exact ok_bind (ok_some (ok_eqb (e_R_plus σ hx hy (Or.inl rfl)) (ok_some rfl)))
  · rw [if_neg h3, if_neg h3]
    by_cases h4 : w = 4
    · rw [if_neg (by intro g; exact g h4), if_pos h4, if_pos h3]
      exact ok_bind (ok_some (ok_eqb (e_R_plus σ hx hy (Or.inr rfl)) (ok_some rfl)))
    · rw [if_pos h4, if_neg h4]
      by_cases h5 : w = 5
      · rw [if_neg (by intro g; exact g h5), if_pos h5]
        exact ok_bind (ok_eqb (e_R_product σ hx hy) (ok_some (ok_some rfl)))
      · rw [if_pos h5, if_neg h5]
        exact ok_bind (ok_eqb (e_R_ratio σ hx hy) (ok_some (ok_some rfl)))
