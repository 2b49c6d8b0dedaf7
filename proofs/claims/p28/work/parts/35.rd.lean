/-! ===== what the small readers of the class say ===== -/
theorem e_TO_placeOf (σ : Hp) (x : Int) : f_TO_placeOf σ x = some (if 0 ≤ x ∧ x < 12 then σ 94 x else -1) := by
  unfold f_TO_placeOf; apply ok_eq
  (repeat' (first | with_reducible refine ok_bind ?_ | (with_reducible refine ok_ite (fun _ => ?_) (fun _ => ?_) <;> try (simp only [bI_0, bI_1, ne_eq, Classical.not_not, not_true_eq_false] at *)) | with_reducible refine ok_grd (by (first | omega | (unfold r32; omega) | (unfold r64; omega) | (simp only [r32, r64] at *; omega))) ?_ | with_reducible refine ok_some ?_)) <;> (first | rfl | (rw [if_neg (by omega), if_neg (by omega)]) | (rw [if_neg (by omega), if_pos (by omega)]) | (rw [if_pos (by omega)]; done) | (rw [if_neg (by omega)]; done) | (rw [if_pos (by omega)]; rfl) | (rw [if_neg (by omega)]; rfl) | (exfalso; omega))
theorem e_D_kindOf (σ : Hp) (p : Nat) (x : Int) : f_D_kindOf σ p x = some (if 0 ≤ x ∧ x < σ p 0 ∧ x < 12 then σ (p + 5) x else -1) := by
  unfold f_D_kindOf; apply ok_eq
  refine ok_eqb (e_D_has σ p x) ?_
  (repeat' (first | with_reducible refine ok_bind ?_ | (with_reducible refine ok_ite (fun _ => ?_) (fun _ => ?_) <;> try (simp only [bI_0, bI_1, ne_eq, Classical.not_not, not_true_eq_false] at *)) | with_reducible refine ok_grd (by (first | omega | (unfold r32; omega) | (unfold r64; omega) | (simp only [r32, r64] at *; omega))) ?_ | with_reducible refine ok_some ?_)) <;> (first | rfl | (rw [if_neg (by omega), if_neg (by omega)]) | (rw [if_neg (by omega), if_pos (by omega)]) | (rw [if_pos (by omega)]; done) | (rw [if_neg (by omega)]; done) | (rw [if_pos (by omega)]; rfl) | (rw [if_neg (by omega)]; rfl) | (exfalso; omega))
theorem e_D_parentOf (σ : Hp) (p : Nat) (x : Int) : f_D_parentOf σ p x = some (if 0 ≤ x ∧ x < σ p 0 ∧ x < 12 ∧ σ (p + 5) x = 0 then σ (p + 13) x else -1) := by
  unfold f_D_parentOf; apply ok_eq
  refine ok_eqb (e_D_has σ p x) ?_
  (repeat' (first | with_reducible refine ok_bind ?_ | (with_reducible refine ok_ite (fun _ => ?_) (fun _ => ?_) <;> try (simp only [bI_0, bI_1, ne_eq, Classical.not_not, not_true_eq_false] at *)) | with_reducible refine ok_grd (by (first | omega | (unfold r32; omega) | (unfold r64; omega) | (simp only [r32, r64] at *; omega))) ?_ | with_reducible refine ok_some ?_)) <;> (first | rfl | (rw [if_neg (by omega), if_neg (by omega)]) | (rw [if_neg (by omega), if_pos (by omega)]) | (rw [if_pos (by omega)]; done) | (rw [if_neg (by omega)]; done) | (rw [if_pos (by omega)]; rfl) | (rw [if_neg (by omega)]; rfl) | (exfalso; omega))
theorem e_D_depthOf (σ : Hp) (p : Nat) (x : Int) : f_D_depthOf σ p x = some (if 0 ≤ x ∧ x < σ p 0 ∧ x < 12 ∧ σ (p + 5) x = 0 then σ (p + 14) x else -1) := by
  unfold f_D_depthOf; apply ok_eq
  refine ok_eqb (e_D_has σ p x) ?_
  (repeat' (first | with_reducible refine ok_bind ?_ | (with_reducible refine ok_ite (fun _ => ?_) (fun _ => ?_) <;> try (simp only [bI_0, bI_1, ne_eq, Classical.not_not, not_true_eq_false] at *)) | with_reducible refine ok_grd (by (first | omega | (unfold r32; omega) | (unfold r64; omega) | (simp only [r32, r64] at *; omega))) ?_ | with_reducible refine ok_some ?_)) <;> (first | rfl | (rw [if_neg (by omega), if_neg (by omega)]) | (rw [if_neg (by omega), if_pos (by omega)]) | (rw [if_pos (by omega)]; done) | (rw [if_neg (by omega)]; done) | (rw [if_pos (by omega)]; rfl) | (rw [if_neg (by omega)]; rfl) | (exfalso; omega))
theorem e_D_orderOf (σ : Hp) (p : Nat) (x : Int) : f_D_orderOf σ p x = some (if 0 ≤ x ∧ x < σ p 0 ∧ x < 12 ∧ σ (p + 5) x = 2 then σ (p + 9) x else -1) := by
  unfold f_D_orderOf; apply ok_eq
  refine ok_eqb (e_D_has σ p x) ?_
  (repeat' (first | with_reducible refine ok_bind ?_ | (with_reducible refine ok_ite (fun _ => ?_) (fun _ => ?_) <;> try (simp only [bI_0, bI_1, ne_eq, Classical.not_not, not_true_eq_false] at *)) | with_reducible refine ok_grd (by (first | omega | (unfold r32; omega) | (unfold r64; omega) | (simp only [r32, r64] at *; omega))) ?_ | with_reducible refine ok_some ?_)) <;> (first | rfl | (rw [if_neg (by omega), if_neg (by omega)]) | (rw [if_neg (by omega), if_pos (by omega)]) | (rw [if_pos (by omega)]; done) | (rw [if_neg (by omega)]; done) | (rw [if_pos (by omega)]; rfl) | (rw [if_neg (by omega)]; rfl) | (exfalso; omega))
theorem e_D_formulaOf (σ : Hp) (p : Nat) (x : Int) : f_D_formulaOf σ p x = some (if 0 ≤ x ∧ x < σ p 0 ∧ x < 12 then σ (p + 11) x else -1) := by
  unfold f_D_formulaOf; apply ok_eq
  refine ok_eqb (e_D_has σ p x) ?_
  (repeat' (first | with_reducible refine ok_bind ?_ | (with_reducible refine ok_ite (fun _ => ?_) (fun _ => ?_) <;> try (simp only [bI_0, bI_1, ne_eq, Classical.not_not, not_true_eq_false] at *)) | with_reducible refine ok_grd (by (first | omega | (unfold r32; omega) | (unfold r64; omega) | (simp only [r32, r64] at *; omega))) ?_ | with_reducible refine ok_some ?_)) <;> (first | rfl | (rw [if_neg (by omega), if_neg (by omega)]) | (rw [if_neg (by omega), if_pos (by omega)]) | (rw [if_pos (by omega)]; done) | (rw [if_neg (by omega)]; done) | (rw [if_pos (by omega)]; rfl) | (rw [if_neg (by omega)]; rfl) | (exfalso; omega))
theorem e_D_isSeen (σ : Hp) (p : Nat) (x : Int) (h : σ p 0 ≤ 12) : f_D_isSeen σ p x = some (bI (0 ≤ x ∧ x < σ p 0 ∧ σ (p + 15) x ≠ 0)) := by
  unfold f_D_isSeen; apply ok_eq
  (repeat' (first | with_reducible refine ok_bind ?_ | (with_reducible refine ok_ite (fun _ => ?_) (fun _ => ?_) <;> try (simp only [bI_0, bI_1, ne_eq, Classical.not_not, not_true_eq_false] at *)) | with_reducible refine ok_grd (by (first | omega | (unfold r32; omega) | (unfold r64; omega) | (simp only [r32, r64] at *; omega))) ?_ | with_reducible refine ok_some ?_)) <;> (first | exact bI_eq (Or.inl ⟨rfl, by omega⟩) | exact bI_eq (Or.inr ⟨rfl, by omega⟩))
theorem e_D_standsFor (σ : Hp) (p : Nat) (b k : Int) (hb : 0 ≤ b ∧ b < 12) (hk : 0 ≤ k ∧ k < 12) (hs : σ (p + 5) b = 1 → 0 ≤ σ (p + 8) b ∧ σ (p + 8) b < 4096) : f_D_standsFor σ p b k = some (bI (σ (p + 5) b = 1 ∧ bitP (σ (p + 8) b) k)) := by
  unfold f_D_standsFor; apply ok_eq
  refine ok_grd hb (ok_bind ?_)
  by_cases h : σ (p + 5) b = 1
  · have e := sb_1 (hs h).1 (hs h).2 hk.1 (by omega : k < 13)
    rw [if_neg (by omega)]
    refine ok_grd hb ?_
    by_cases h2 : bitP (σ (p + 8) b) k
    · rw [if_neg (by rw [e.mpr h2]; omega)]
      exact ok_some (ok_grd (by omega) (ok_some (bI_t ⟨h, h2⟩).symm))
    · rw [if_pos (fun g => h2 (e.mp g))]
      exact ok_some (ok_grd (by omega) (ok_some (bI_f (fun g => h2 g.2)).symm))
  · rw [if_pos h]
    exact ok_some (ok_grd (by omega) (ok_some (bI_f (fun g => h g.1)).symm))
theorem e_D_pickedAt (σ : Hp) (p : Nat) (x : Int) : f_D_pickedAt σ p x = some (if 0 ≤ x ∧ x < σ p 2 ∧ x < 12 then σ (p + 12) x else -1) := by
  unfold f_D_pickedAt; apply ok_eq
  (repeat' (first | with_reducible refine ok_bind ?_ | (with_reducible refine ok_ite (fun _ => ?_) (fun _ => ?_) <;> try (simp only [bI_0, bI_1, ne_eq, Classical.not_not, not_true_eq_false] at *)) | with_reducible refine ok_grd (by (first | omega | (unfold r32; omega) | (unfold r64; omega) | (simp only [r32, r64] at *; omega))) ?_ | with_reducible refine ok_some ?_)) <;> (first | rfl | (rw [if_neg (by omega), if_neg (by omega)]) | (rw [if_neg (by omega), if_pos (by omega)]) | (rw [if_pos (by omega)]; done) | (rw [if_neg (by omega)]; done) | (rw [if_pos (by omega)]; rfl) | (rw [if_neg (by omega)]; rfl) | (exfalso; omega))
theorem e_D_weight (σ : Hp) (p : Nat) (r m o : Int) (h : σ p 0 ≤ 12) : f_D_weight σ p r m o = some (if 0 ≤ r ∧ r ≤ 12 ∧ 0 ≤ m ∧ m < σ p 0 ∧ 0 ≤ o ∧ o < σ p 0 ∧ σ (p + 17 + r.toNat) (12 * m + o) ≠ 2 then σ (p + 17 + r.toNat) (12 * m + o) else 0) := by
  have e : σ (p + 16 + 1 + r.toNat) (m * 12 + o) = σ (p + 17 + r.toNat) (12 * m + o) := by rw [show m * 12 + o = 12 * m + o by omega]
  unfold f_D_weight; apply ok_eq
  rw [e]
  (repeat' (first | with_reducible refine ok_bind ?_ | (with_reducible refine ok_ite (fun _ => ?_) (fun _ => ?_) <;> try (simp only [bI_0, bI_1, ne_eq, Classical.not_not, not_true_eq_false] at *)) | with_reducible refine ok_grd (by (first | omega | (unfold r32; omega) | (unfold r64; omega) | (simp only [r32, r64] at *; omega))) ?_ | with_reducible refine ok_some ?_)) <;> (first | rfl | (rw [if_neg (by omega), if_neg (by omega)]) | (rw [if_neg (by omega), if_pos (by omega)]) | (rw [if_pos (by omega)]; done) | (rw [if_neg (by omega)]; done) | (rw [if_pos (by omega)]; rfl) | (rw [if_neg (by omega)]; rfl) | (exfalso; omega))
theorem e_MS_has (σ : Hp) (x : Int) : f_MS_has σ x = some (bI (0 ≤ x ∧ x < σ 95 0 ∧ x < 4)) := by
  unfold f_MS_has; apply ok_eq
  (repeat' (first | with_reducible refine ok_bind ?_ | (with_reducible refine ok_ite (fun _ => ?_) (fun _ => ?_) <;> try (simp only [bI_0, bI_1, ne_eq, Classical.not_not, not_true_eq_false] at *)) | with_reducible refine ok_grd (by (first | omega | (unfold r32; omega) | (unfold r64; omega) | (simp only [r32, r64] at *; omega))) ?_ | with_reducible refine ok_some ?_)) <;> (first | exact bI_eq (Or.inl ⟨rfl, by omega⟩) | exact bI_eq (Or.inr ⟨rfl, by omega⟩))
theorem e_MS_kindOf (σ : Hp) (x : Int) : f_MS_kindOf σ x = some (if 0 ≤ x ∧ x < σ 95 0 ∧ x < 4 then σ 96 x else -1) := by
  unfold f_MS_kindOf; apply ok_eq
  refine ok_eqb (e_MS_has σ x) ?_
  (repeat' (first | with_reducible refine ok_bind ?_ | (with_reducible refine ok_ite (fun _ => ?_) (fun _ => ?_) <;> try (simp only [bI_0, bI_1, ne_eq, Classical.not_not, not_true_eq_false] at *)) | with_reducible refine ok_grd (by (first | omega | (unfold r32; omega) | (unfold r64; omega) | (simp only [r32, r64] at *; omega))) ?_ | with_reducible refine ok_some ?_)) <;> (first | rfl | (rw [if_neg (by omega), if_neg (by omega)]) | (rw [if_neg (by omega), if_pos (by omega)]) | (rw [if_pos (by omega)]; done) | (rw [if_neg (by omega)]; done) | (rw [if_pos (by omega)]; rfl) | (rw [if_neg (by omega)]; rfl) | (exfalso; omega))
theorem e_MS_leastDepth (σ : Hp) (x d : Int) : f_MS_leastDepth σ x d = some (if 0 ≤ x ∧ x < σ 95 0 ∧ x < 4 ∧ 0 ≤ d ∧ d < 3 then σ 100 (3 * x + d) else 0) := by
  have e : x * 3 + d = 3 * x + d := by omega
  unfold f_MS_leastDepth; apply ok_eq
  rw [e]
  refine ok_eqb (e_MS_has σ x) ?_
  (repeat' (first | with_reducible refine ok_bind ?_ | (with_reducible refine ok_ite (fun _ => ?_) (fun _ => ?_) <;> try (simp only [bI_0, bI_1, ne_eq, Classical.not_not, not_true_eq_false] at *)) | with_reducible refine ok_grd (by (first | omega | (unfold r32; omega) | (unfold r64; omega) | (simp only [r32, r64] at *; omega))) ?_ | with_reducible refine ok_some ?_)) <;> first | (first | rfl | (rw [if_neg (by omega), if_neg (by omega)]) | (rw [if_neg (by omega), if_pos (by omega)]) | (rw [if_pos (by omega)]; done) | (rw [if_neg (by omega)]; done) | (rw [if_pos (by omega)]; rfl) | (rw [if_neg (by omega)]; rfl) | (exfalso; omega)) | (exfalso; omega)
theorem e_FR_has (σ : Hp) (x : Int) : f_FR_has σ x = some (bI (0 ≤ x ∧ x < σ 101 0 ∧ x < 50)) := by
  unfold f_FR_has; apply ok_eq
  (repeat' (first | with_reducible refine ok_bind ?_ | (with_reducible refine ok_ite (fun _ => ?_) (fun _ => ?_) <;> try (simp only [bI_0, bI_1, ne_eq, Classical.not_not, not_true_eq_false] at *)) | with_reducible refine ok_grd (by (first | omega | (unfold r32; omega) | (unfold r64; omega) | (simp only [r32, r64] at *; omega))) ?_ | with_reducible refine ok_some ?_)) <;> (first | exact bI_eq (Or.inl ⟨rfl, by omega⟩) | exact bI_eq (Or.inr ⟨rfl, by omega⟩))
theorem e_FR_cellAt (σ : Hp) (x : Int) : f_FR_cellAt σ x = some (if 0 ≤ x ∧ x < σ 101 0 ∧ x < 50 then σ 102 x else 0) := by
  unfold f_FR_cellAt; apply ok_eq
  refine ok_eqb (e_FR_has σ x) ?_
  (repeat' (first | with_reducible refine ok_bind ?_ | (with_reducible refine ok_ite (fun _ => ?_) (fun _ => ?_) <;> try (simp only [bI_0, bI_1, ne_eq, Classical.not_not, not_true_eq_false] at *)) | with_reducible refine ok_grd (by (first | omega | (unfold r32; omega) | (unfold r64; omega) | (simp only [r32, r64] at *; omega))) ?_ | with_reducible refine ok_some ?_)) <;> (first | rfl | (rw [if_neg (by omega), if_neg (by omega)]) | (rw [if_neg (by omega), if_pos (by omega)]) | (rw [if_pos (by omega)]; done) | (rw [if_neg (by omega)]; done) | (rw [if_pos (by omega)]; rfl) | (rw [if_neg (by omega)]; rfl) | (exfalso; omega))
theorem e_FR_measureAt (σ : Hp) (x : Int) : f_FR_measureAt σ x = some (if 0 ≤ x ∧ x < σ 101 0 ∧ x < 50 then σ 103 x else -1) := by
  unfold f_FR_measureAt; apply ok_eq
  refine ok_eqb (e_FR_has σ x) ?_
  (repeat' (first | with_reducible refine ok_bind ?_ | (with_reducible refine ok_ite (fun _ => ?_) (fun _ => ?_) <;> try (simp only [bI_0, bI_1, ne_eq, Classical.not_not, not_true_eq_false] at *)) | with_reducible refine ok_grd (by (first | omega | (unfold r32; omega) | (unfold r64; omega) | (simp only [r32, r64] at *; omega))) ?_ | with_reducible refine ok_some ?_)) <;> (first | rfl | (rw [if_neg (by omega), if_neg (by omega)]) | (rw [if_neg (by omega), if_pos (by omega)]) | (rw [if_pos (by omega)]; done) | (rw [if_neg (by omega)]; done) | (rw [if_pos (by omega)]; rfl) | (rw [if_neg (by omega)]; rfl) | (exfalso; omega))
theorem e_FR_numberAt (σ : Hp) (x : Int) : f_FR_numberAt σ x = some (if 0 ≤ x ∧ x < σ 101 0 ∧ x < 50 then σ 104 x else 0) := by
  unfold f_FR_numberAt; apply ok_eq
  refine ok_eqb (e_FR_has σ x) ?_
  (repeat' (first | with_reducible refine ok_bind ?_ | (with_reducible refine ok_ite (fun _ => ?_) (fun _ => ?_) <;> try (simp only [bI_0, bI_1, ne_eq, Classical.not_not, not_true_eq_false] at *)) | with_reducible refine ok_grd (by (first | omega | (unfold r32; omega) | (unfold r64; omega) | (simp only [r32, r64] at *; omega))) ?_ | with_reducible refine ok_some ?_)) <;> (first | rfl | (rw [if_neg (by omega), if_neg (by omega)]) | (rw [if_neg (by omega), if_pos (by omega)]) | (rw [if_pos (by omega)]; done) | (rw [if_neg (by omega)]; done) | (rw [if_pos (by omega)]; rfl) | (rw [if_neg (by omega)]; rfl) | (exfalso; omega))
theorem e_K_has (σ : Hp) (x : Int) : f_K_has σ x = some (bI (0 ≤ x ∧ x < σ 108 0 ∧ x < 20)) := by
  unfold f_K_has; apply ok_eq
  (repeat' (first | with_reducible refine ok_bind ?_ | (with_reducible refine ok_ite (fun _ => ?_) (fun _ => ?_) <;> try (simp only [bI_0, bI_1, ne_eq, Classical.not_not, not_true_eq_false] at *)) | with_reducible refine ok_grd (by (first | omega | (unfold r32; omega) | (unfold r64; omega) | (simp only [r32, r64] at *; omega))) ?_ | with_reducible refine ok_some ?_)) <;> (first | exact bI_eq (Or.inl ⟨rfl, by omega⟩) | exact bI_eq (Or.inr ⟨rfl, by omega⟩))
theorem e_K_cellAt (σ : Hp) (x : Int) : f_K_cellAt σ x = some (if 0 ≤ x ∧ x < σ 108 0 ∧ x < 20 then σ 109 x else 0) := by
  unfold f_K_cellAt; apply ok_eq
  refine ok_eqb (e_K_has σ x) ?_
  (repeat' (first | with_reducible refine ok_bind ?_ | (with_reducible refine ok_ite (fun _ => ?_) (fun _ => ?_) <;> try (simp only [bI_0, bI_1, ne_eq, Classical.not_not, not_true_eq_false] at *)) | with_reducible refine ok_grd (by (first | omega | (unfold r32; omega) | (unfold r64; omega) | (simp only [r32, r64] at *; omega))) ?_ | with_reducible refine ok_some ?_)) <;> (first | rfl | (rw [if_neg (by omega), if_neg (by omega)]) | (rw [if_neg (by omega), if_pos (by omega)]) | (rw [if_pos (by omega)]; done) | (rw [if_neg (by omega)]; done) | (rw [if_pos (by omega)]; rfl) | (rw [if_neg (by omega)]; rfl) | (exfalso; omega))
theorem e_K_measureAt (σ : Hp) (x : Int) : f_K_measureAt σ x = some (if 0 ≤ x ∧ x < σ 108 0 ∧ x < 20 then σ 110 x else -1) := by
  unfold f_K_measureAt; apply ok_eq
  refine ok_eqb (e_K_has σ x) ?_
  (repeat' (first | with_reducible refine ok_bind ?_ | (with_reducible refine ok_ite (fun _ => ?_) (fun _ => ?_) <;> try (simp only [bI_0, bI_1, ne_eq, Classical.not_not, not_true_eq_false] at *)) | with_reducible refine ok_grd (by (first | omega | (unfold r32; omega) | (unfold r64; omega) | (simp only [r32, r64] at *; omega))) ?_ | with_reducible refine ok_some ?_)) <;> (first | rfl | (rw [if_neg (by omega), if_neg (by omega)]) | (rw [if_neg (by omega), if_pos (by omega)]) | (rw [if_pos (by omega)]; done) | (rw [if_neg (by omega)]; done) | (rw [if_pos (by omega)]; rfl) | (rw [if_neg (by omega)]; rfl) | (exfalso; omega))
theorem e_K_valueAt (σ : Hp) (x : Int) : f_K_valueAt σ x = some (if 0 ≤ x ∧ x < σ 108 0 ∧ x < 20 then σ 111 x else zNO) := by
  unfold f_K_valueAt; apply ok_eq
  refine ok_eqb (e_K_has σ x) ?_
  (repeat' (first | with_reducible refine ok_bind ?_ | (with_reducible refine ok_ite (fun _ => ?_) (fun _ => ?_) <;> try (simp only [bI_0, bI_1, ne_eq, Classical.not_not, not_true_eq_false] at *)) | with_reducible refine ok_grd (by (first | omega | (unfold r32; omega) | (unfold r64; omega) | (simp only [r32, r64] at *; omega))) ?_ | with_reducible refine ok_some ?_)) <;> (first | rfl | (rw [if_neg (by omega), if_neg (by omega)]) | (rw [if_neg (by omega), if_pos (by omega)]) | (rw [if_pos (by omega)]; done) | (rw [if_neg (by omega)]; done) | (rw [if_pos (by omega)]; rfl) | (rw [if_neg (by omega)]; rfl) | (exfalso; omega))
theorem e_C_needMember (σ : Hp) (p : Nat) (x : Int) : f_C_needMember σ p x = some (if 0 ≤ x ∧ x < σ p 0 ∧ x < 12 then 0 else 1) := by
  unfold f_C_needMember; apply ok_eq
  refine ok_eqb (e_D_has σ p x) ?_
  (repeat' (first | with_reducible refine ok_bind ?_ | (with_reducible refine ok_ite (fun _ => ?_) (fun _ => ?_) <;> try (simp only [bI_0, bI_1, ne_eq, Classical.not_not, not_true_eq_false] at *)) | with_reducible refine ok_grd (by (first | omega | (unfold r32; omega) | (unfold r64; omega) | (simp only [r32, r64] at *; omega))) ?_ | with_reducible refine ok_some ?_)) <;> (first | rfl | (rw [if_neg (by omega), if_neg (by omega)]) | (rw [if_neg (by omega), if_pos (by omega)]) | (rw [if_pos (by omega)]; done) | (rw [if_neg (by omega)]; done) | (rw [if_pos (by omega)]; rfl) | (rw [if_neg (by omega)]; rfl) | (exfalso; omega))
theorem e_C_needMeasure (σ : Hp) (x : Int) : f_C_needMeasure σ x = some (if 0 ≤ x ∧ x < σ 95 0 ∧ x < 4 then 0 else 1) := by
  unfold f_C_needMeasure; apply ok_eq
  refine ok_eqb (e_MS_has σ x) ?_
  (repeat' (first | with_reducible refine ok_bind ?_ | (with_reducible refine ok_ite (fun _ => ?_) (fun _ => ?_) <;> try (simp only [bI_0, bI_1, ne_eq, Classical.not_not, not_true_eq_false] at *)) | with_reducible refine ok_grd (by (first | omega | (unfold r32; omega) | (unfold r64; omega) | (simp only [r32, r64] at *; omega))) ?_ | with_reducible refine ok_some ?_)) <;> (first | rfl | (rw [if_neg (by omega), if_neg (by omega)]) | (rw [if_neg (by omega), if_pos (by omega)]) | (rw [if_pos (by omega)]; done) | (rw [if_neg (by omega)]; done) | (rw [if_pos (by omega)]; rfl) | (rw [if_neg (by omega)]; rfl) | (exfalso; omega))
theorem e_C_needRange (σ : Hp) (x l h : Int) : f_C_needRange σ x l h = some (if l ≤ x ∧ x ≤ h then 0 else 2) := by
  unfold f_C_needRange; apply ok_eq
  (repeat' (first | with_reducible refine ok_bind ?_ | (with_reducible refine ok_ite (fun _ => ?_) (fun _ => ?_) <;> try (simp only [bI_0, bI_1, ne_eq, Classical.not_not, not_true_eq_false] at *)) | with_reducible refine ok_grd (by (first | omega | (unfold r32; omega) | (unfold r64; omega) | (simp only [r32, r64] at *; omega))) ?_ | with_reducible refine ok_some ?_)) <;> (first | rfl | (rw [if_neg (by omega), if_neg (by omega)]) | (rw [if_neg (by omega), if_pos (by omega)]) | (rw [if_pos (by omega)]; done) | (rw [if_neg (by omega)]; done) | (rw [if_pos (by omega)]; rfl) | (rw [if_neg (by omega)]; rfl) | (exfalso; omega))
theorem e_C_need (σ : Hp) (x : Int) : f_C_need σ x = some (if x = 0 then 3 else 0) := by
  unfold f_C_need; apply ok_eq
  (repeat' (first | with_reducible refine ok_bind ?_ | (with_reducible refine ok_ite (fun _ => ?_) (fun _ => ?_) <;> try (simp only [bI_0, bI_1, ne_eq, Classical.not_not, not_true_eq_false] at *)) | with_reducible refine ok_grd (by (first | omega | (unfold r32; omega) | (unfold r64; omega) | (simp only [r32, r64] at *; omega))) ?_ | with_reducible refine ok_some ?_)) <;> (first | rfl | (rw [if_neg (by omega), if_neg (by omega)]) | (rw [if_neg (by omega), if_pos (by omega)]) | (rw [if_pos (by omega)]; done) | (rw [if_neg (by omega)]; done) | (rw [if_pos (by omega)]; rfl) | (rw [if_neg (by omega)]; rfl) | (exfalso; omega))
theorem e_S_dimension (σ : Hp) (d : Int) : f_S_dimension σ d = some (dP d) := by
  unfold f_S_dimension dP; apply ok_eq
  (repeat' (first | with_reducible refine ok_bind ?_ | (with_reducible refine ok_ite (fun _ => ?_) (fun _ => ?_) <;> try (simp only [bI_0, bI_1, ne_eq, Classical.not_not, not_true_eq_false] at *)) | with_reducible refine ok_grd (by (first | omega | (unfold r32; omega) | (unfold r64; omega) | (simp only [r32, r64] at *; omega))) ?_ | with_reducible refine ok_some ?_)) <;> first | (first | rfl | (rw [if_neg (by omega), if_neg (by omega)]) | (rw [if_neg (by omega), if_pos (by omega)]) | (rw [if_pos (by omega)]; done) | (rw [if_neg (by omega)]; done) | (rw [if_pos (by omega)]; rfl) | (rw [if_neg (by omega)]; rfl) | (exfalso; omega)) | (rw [if_neg (by omega), if_neg (by omega)]) | (rw [if_neg (by omega), if_pos (by omega)])
theorem e_C_existing (σ : Hp) (d : Int) : f_C_existing σ d = some (if 0 ≤ d ∧ d < 3 then (0, dP d) else (1, 0)) := by
  unfold f_C_existing; apply ok_eq
  refine ok_ite (fun _ => ?_) (fun _ => ok_ite (fun _ => ok_eqb (e_S_dimension σ d) ?_) (fun _ => ?_))
  · exact ok_some (by rw [if_neg (by omega)])
  · exact ok_some (by rw [if_pos (by omega)])
  · exact ok_some (by rw [if_neg (by omega)])
def mOf (c d : Int) : Int := if d = 0 then c / 144 else if d = 1 then c / 12 % 12 else c % 12
theorem e_C_memberOf (σ : Hp) (c d : Int) (h : 0 ≤ c) : f_C_memberOf σ c d = some (mOf c d) := by
  have e1 : c.tdiv 144 = c / 144 := Int.tdiv_eq_ediv_of_nonneg h
  have e2 : c.tdiv 12 = c / 12 := Int.tdiv_eq_ediv_of_nonneg h
  have e3 : (c / 12).tmod 12 = c / 12 % 12 := Int.tmod_eq_emod_of_nonneg (by omega)
  have e4 : c.tmod 12 = c % 12 := Int.tmod_eq_emod_of_nonneg h
  unfold f_C_memberOf mOf; apply ok_eq
  rw [e1, e2, e3, e4]
  (repeat' (first | with_reducible refine ok_bind ?_ | (with_reducible refine ok_ite (fun _ => ?_) (fun _ => ?_) <;> try (simp only [bI_0, bI_1, ne_eq, Classical.not_not, not_true_eq_false] at *)) | with_reducible refine ok_grd (by (first | omega | (unfold r32; omega) | (unfold r64; omega) | (simp only [r32, r64] at *; omega))) ?_ | with_reducible refine ok_some ?_)) <;> first | (first | rfl | (rw [if_neg (by omega), if_neg (by omega)]) | (rw [if_neg (by omega), if_pos (by omega)]) | (rw [if_pos (by omega)]; done) | (rw [if_neg (by omega)]; done) | (rw [if_pos (by omega)]; rfl) | (rw [if_neg (by omega)]; rfl) | (exfalso; omega)) | (rw [if_neg (by omega), if_neg (by omega)]) | (rw [if_neg (by omega), if_pos (by omega)])
theorem mOf_c {t x y : Int} (ht : 0 ≤ t ∧ t < 12) (hx : 0 ≤ x ∧ x < 12) (hy : 0 ≤ y ∧ y < 12) : mOf (144 * t + 12 * x + y) 0 = t ∧ mOf (144 * t + 12 * x + y) 1 = x ∧ mOf (144 * t + 12 * x + y) 2 = y := by
  unfold mOf
  refine ⟨?_, ?_, ?_⟩
  · rw [if_pos rfl]; omega
  · rw [if_neg (by omega), if_pos rfl]; omega
  · rw [if_neg (by omega), if_neg (by omega)]; omega
theorem e_C_withMember (σ : Hp) (c d z : Int) (h : 0 ≤ c ∧ c < 1728) (hz : 0 ≤ z ∧ z < 12) : f_C_withMember σ c d z = some (c + (z - mOf c d) * (if d = 0 then 144 else if d = 1 then 12 else 1)) := by
  have hm : 0 ≤ mOf c d ∧ mOf c d < 12 := by
    unfold mOf
    by_cases h0 : d = 0
    · rw [if_pos h0]; omega
    · by_cases h1 : d = 1
      · rw [if_neg h0, if_pos h1]; omega
      · rw [if_neg h0, if_neg h1]; omega
  unfold f_C_withMember; apply ok_eq
  by_cases h0 : d = 0
  · rw [if_neg (by omega), if_pos h0]
    refine ok_bind (ok_some (ok_eqb (e_C_memberOf σ c d h.1) ?_))
    (repeat' (first | with_reducible refine ok_bind ?_ | (with_reducible refine ok_ite (fun _ => ?_) (fun _ => ?_) <;> try (simp only [bI_0, bI_1, ne_eq, Classical.not_not, not_true_eq_false] at *)) | with_reducible refine ok_grd (by (first | omega | (unfold r32; omega) | (unfold r64; omega) | (simp only [r32, r64] at *; omega))) ?_ | with_reducible refine ok_some ?_)); rfl
  · by_cases h1 : d = 1
    · rw [if_pos h0, if_neg (by omega), if_neg h0, if_pos h1]
      refine ok_bind (ok_some (ok_eqb (e_C_memberOf σ c d h.1) ?_))
      (repeat' (first | with_reducible refine ok_bind ?_ | (with_reducible refine ok_ite (fun _ => ?_) (fun _ => ?_) <;> try (simp only [bI_0, bI_1, ne_eq, Classical.not_not, not_true_eq_false] at *)) | with_reducible refine ok_grd (by (first | omega | (unfold r32; omega) | (unfold r64; omega) | (simp only [r32, r64] at *; omega))) ?_ | with_reducible refine ok_some ?_)); rfl
    · rw [if_pos h0, if_pos h1, if_neg h0, if_neg h1]
      refine ok_bind (ok_some (ok_eqb (e_C_memberOf σ c d h.1) ?_))
      (repeat' (first | with_reducible refine ok_bind ?_ | (with_reducible refine ok_ite (fun _ => ?_) (fun _ => ?_) <;> try (simp only [bI_0, bI_1, ne_eq, Classical.not_not, not_true_eq_false] at *)) | with_reducible refine ok_grd (by (first | omega | (unfold r32; omega) | (unfold r64; omega) | (simp only [r32, r64] at *; omega))) ?_ | with_reducible refine ok_some ?_)); rfl
