/-! ===== links: each function is what its bytecode does ===== -/
set_option maxRecDepth 10000 in
theorem l_R_allWeighOne_2 (d : Nat) (n : Nat) (e : Nat) (σ : Hp) : ∀ (F : Nat) (y1 : Int) (r : Int), f_R_allWeighOne_2 σ F y1 = some r → Go none (Ev (d + 0)) mt149 2 [some (pvR 6 0 116), some (pvI y1)] [] (true, n, e, σ) (0, some (pvI r), true, n, e, σ) := by
  intro F
  induction F with
  | zero =>
    intro _ _ h
    rw [f_R_allWeighOne_2] at h
    cases h
  | succ F ih =>
    intro y1 r h
    rw [f_R_allWeighOne_2] at h
    refine go_iload_n (pc' := 3) dX6_allWeighOne_2 rfl rfl ?_
    refine go_aload_n (pc' := 4) dX6_allWeighOne_3 rfl rfl (Nat.le_of_ble_eq_true rfl) ?_
    refine go_getI (pc' := 7) dX6_allWeighOne_4 rfl rf_6_202 rfl ?_
    refine go_icmp_ge (t := 28) (pc' := 10) dX6_allWeighOne_7 rfl rfl (fun c7 => ?_) (fun c7 => ?_)
    · rw [if_pos (show (σ 116 9) ≤ y1 from c7)] at h
      refine go_iconst (pc' := 29) dX6_allWeighOne_28 rfl (r32_c rfl) ?_
      obtain ⟨g2, h⟩ := gd h
      cases h
      exact go_zret dX6_allWeighOne_29 rfl g2 rfl
    · rw [if_neg (show ¬ ((σ 116 9) ≤ y1) from c7)] at h
      refine go_aload_n (pc' := 11) dX6_allWeighOne_10 rfl rfl (Nat.le_of_ble_eq_true rfl) ?_
      refine go_getR (k' := 12) (L0 := 50) (P' := 122) (pc' := 14) dX6_allWeighOne_11 rfl rf_6_28 rfl rfl (by omega) ?_
      refine go_iload_n (pc' := 15) dX6_allWeighOne_14 rfl rfl ?_
      obtain ⟨g3, h⟩ := gd h
      refine go_iald (pc' := 16) dX6_allWeighOne_15 rfl g3 ?_
      refine go_iconst (pc' := 17) dX6_allWeighOne_16 rfl (r32_c rfl) ?_
      refine go_icmp_eq (t := 22) (pc' := 20) dX6_allWeighOne_17 rfl rfl (fun c6 => ?_) (fun c6 => ?_)
      · rw [if_pos (show (σ 122 y1) = 1 from c6)] at h
        obtain ⟨g4, h⟩ := gd h
        refine go_iinc (L' := [some (pvR 6 0 116), some (pvI (y1 + 1))]) (pc' := 25) dX6_allWeighOne_22 rfl rfl g4 rfl ?_
        refine go_goto (t := 2) dX6_allWeighOne_25 rfl ?_
        exact ih (y1 + 1) _ h
      · rw [if_neg (show ¬ ((σ 122 y1) = 1) from c6)] at h
        refine go_iconst (pc' := 21) dX6_allWeighOne_20 rfl (r32_c rfl) ?_
        obtain ⟨g5, h⟩ := gd h
        cases h
        exact go_zret dX6_allWeighOne_21 rfl g5 rfl

set_option maxRecDepth 10000 in
theorem l_R_allWeighOne (d : Nat) (n e : Nat) (σ : Hp) (r : Int) (h : f_R_allWeighOne σ = some r) : Ev (d + 1) 149 [pvR 6 0 116] (true, n, e, σ) (0, some (pvI r), true, n, e, σ) := by
  unfold f_R_allWeighOne at h
  refine Ev.of mtE149 rfl rfl rfl rfl ?_
  show Go none (Ev (d + 0)) mt149 0 [some (pvR 6 0 116), none] [] (true, n, e, σ) (0, some (pvI r), true, n, e, σ)
  refine go_iconst (pc' := 1) dX6_allWeighOne_0 rfl (r32_c rfl) ?_
  refine go_istore_n (L' := [some (pvR 6 0 116), some (pvI 0)]) (pc' := 2) dX6_allWeighOne_1 rfl (Nat.le_of_ble_eq_true rfl) rfl ?_
  exact l_R_allWeighOne_2 d n e σ zFuel 0 _ h

set_option maxRecDepth 10000 in
theorem l_SP_start (d : Nat) (n e : Nat) (σ : Hp) (x1 : Int) (x2 : Int) (r : Hp) (h : f_SP_start σ x1 x2 = some r) : Ev (d + 1) 150 [pvR 8 0 112, pvI x1, pvL x2] (true, n, e, σ) (0, none, true, n, e, r) := by
  unfold f_SP_start at h
  refine Ev.of mtE150 rfl rfl rfl rfl ?_
  show Go none (Ev (d + 0)) mt150 0 [some (pvR 8 0 112), some (pvI x1), some (pvL x2), none] [] (true, n, e, σ) (0, none, true, n, e, r)
  refine go_aload_n (pc' := 1) dX8_start_0 rfl rfl (Nat.le_of_ble_eq_true rfl) ?_
  refine go_iload_n (pc' := 2) dX8_start_1 rfl rfl ?_
  refine go_bipush (pc' := 4) dX8_start_2 rfl (r32_c rfl) (by decide) ?_
  refine go_imin (pc' := 7) dX8_start_4 rfl rm_8_21 (Nat.le_of_ble_eq_true rfl) ?_
  refine go_putI (pc' := 10) dX8_start_7 rfl rf_8_27 rfl ?_
  refine go_aload_n (pc' := 11) dX8_start_10 rfl rfl (Nat.le_of_ble_eq_true rfl) ?_
  refine go_lload_n (pc' := 12) dX8_start_11 rfl rfl ?_
  refine go_putL (pc' := 15) dX8_start_12 rfl rf_8_31 rfl ?_
  cases h
  exact go_vret dX8_start_15 rfl rfl

set_option maxRecDepth 10000 in
theorem l_R_rowAt (d : Nat) (n e : Nat) (σ : Hp) (x1 : Int) (r : Int) (h : f_R_rowAt σ x1 = some r) : Ev (d + 1) 151 [pvR 6 0 116, pvI x1] (true, n, e, σ) (0, some (pvI r), true, n, e, σ) := by
  unfold f_R_rowAt at h
  refine Ev.of mtE151 rfl rfl rfl rfl ?_
  show Go none (Ev (d + 0)) mt151 0 [some (pvR 6 0 116), some (pvI x1)] [] (true, n, e, σ) (0, some (pvI r), true, n, e, σ)
  refine go_iload_n (pc' := 1) dX6_rowAt_0 rfl rfl ?_
  obtain ⟨j1, k2, h⟩ := bd h
  have k2J : Go none (Ev (d + 0)) mt151 28 [some (pvR 6 0 116), some (pvI x1)] [pvI j1] (true, n, e, σ) (0, some (pvI r), true, n, e, σ) := by
    cases h
    exact go_iret dX6_rowAt_28 rfl rfl
  clear h
  have h := k2
  refine go_if_lt (t := 27) (pc' := 4) dX6_rowAt_1 rfl rfl (fun c6 => ?_) (fun c6 => ?_)
  · rw [if_pos (show x1 < 0 from c6)] at h
    refine go_iconst (pc' := 28) dX6_rowAt_27 rfl (r32_c rfl) ?_
    cases h
    exact k2J
  · rw [if_neg (show ¬ (x1 < 0) from c6)] at h
    refine go_iload_n (pc' := 5) dX6_rowAt_4 rfl rfl ?_
    refine go_aload_n (pc' := 6) dX6_rowAt_5 rfl rfl (Nat.le_of_ble_eq_true rfl) ?_
    refine go_getI (pc' := 9) dX6_rowAt_6 rfl rf_6_202 rfl ?_
    refine go_icmp_ge (t := 27) (pc' := 12) dX6_rowAt_9 rfl rfl (fun c5 => ?_) (fun c5 => ?_)
    · rw [if_pos (show (σ 116 9) ≤ x1 from c5)] at h
      refine go_iconst (pc' := 28) dX6_rowAt_27 rfl (r32_c rfl) ?_
      cases h
      exact k2J
    · rw [if_neg (show ¬ ((σ 116 9) ≤ x1) from c5)] at h
      refine go_iload_n (pc' := 13) dX6_rowAt_12 rfl rfl ?_
      refine go_bipush (pc' := 15) dX6_rowAt_13 rfl (r32_c rfl) (by decide) ?_
      refine go_icmp_ge (t := 27) (pc' := 18) dX6_rowAt_15 rfl rfl (fun c4 => ?_) (fun c4 => ?_)
      · rw [if_pos (show 50 ≤ x1 from c4)] at h
        refine go_iconst (pc' := 28) dX6_rowAt_27 rfl (r32_c rfl) ?_
        cases h
        exact k2J
      · rw [if_neg (show ¬ (50 ≤ x1) from c4)] at h
        refine go_aload_n (pc' := 19) dX6_rowAt_18 rfl rfl (Nat.le_of_ble_eq_true rfl) ?_
        refine go_getR (k' := 12) (L0 := 50) (P' := 121) (pc' := 22) dX6_rowAt_19 rfl rf_6_25 rfl rfl (by omega) ?_
        refine go_iload_n (pc' := 23) dX6_rowAt_22 rfl rfl ?_
        obtain ⟨g3, h⟩ := gd h
        refine go_iald (pc' := 24) dX6_rowAt_23 rfl g3 ?_
        refine go_goto (t := 28) dX6_rowAt_24 rfl ?_
        cases h
        exact k2J

set_option maxRecDepth 10000 in
theorem l_SP_own (d : Nat) (n e : Nat) (σ : Hp) (x1 : Int) (x2 : Int) (r : Hp) (h : f_SP_own σ x1 x2 = some r) : Ev (d + 1) 152 [pvR 8 0 112, pvI x1, pvL x2] (true, n, e, σ) (0, none, true, n, e, r) := by
  unfold f_SP_own at h
  refine Ev.of mtE152 rfl rfl rfl rfl ?_
  show Go none (Ev (d + 0)) mt152 0 [some (pvR 8 0 112), some (pvI x1), some (pvL x2), none] [] (true, n, e, σ) (0, none, true, n, e, r)
  refine go_iload_n (pc' := 1) dX8_own_0 rfl rfl ?_
  obtain ⟨j1, k2, h⟩ := bd h
  have k2J : Go none (Ev (d + 0)) mt152 19 [some (pvR 8 0 112), some (pvI x1), some (pvL x2), none] [] (true, n, e, j1) (0, none, true, n, e, r) := by
    cases h
    exact go_vret dX8_own_19 rfl rfl
  clear h
  have h := k2
  refine go_if_lt (t := 19) (pc' := 4) dX8_own_1 rfl rfl (fun c5 => ?_) (fun c5 => ?_)
  · rw [if_pos (show x1 < 0 from c5)] at h
    cases h
    exact k2J
  · rw [if_neg (show ¬ (x1 < 0) from c5)] at h
    refine go_iload_n (pc' := 5) dX8_own_4 rfl rfl ?_
    refine go_aload_n (pc' := 6) dX8_own_5 rfl rfl (Nat.le_of_ble_eq_true rfl) ?_
    refine go_getI (pc' := 9) dX8_own_6 rfl rf_8_27 rfl ?_
    refine go_icmp_ge (t := 19) (pc' := 12) dX8_own_9 rfl rfl (fun c4 => ?_) (fun c4 => ?_)
    · rw [if_pos (show (σ 112 0) ≤ x1 from c4)] at h
      cases h
      exact k2J
    · rw [if_neg (show ¬ ((σ 112 0) ≤ x1) from c4)] at h
      refine go_aload_n (pc' := 13) dX8_own_12 rfl rfl (Nat.le_of_ble_eq_true rfl) ?_
      refine go_getR (k' := 13) (L0 := 50) (P' := 113) (pc' := 16) dX8_own_13 rfl rf_8_9 rfl rfl (by omega) ?_
      refine go_iload_n (pc' := 17) dX8_own_16 rfl rfl ?_
      refine go_lload_n (pc' := 18) dX8_own_17 rfl rfl ?_
      obtain ⟨g3, h⟩ := gd h
      refine go_last (pc' := 19) dX8_own_18 rfl g3 ?_
      cases h
      exact k2J

set_option maxRecDepth 10000 in
theorem l_SP_leaveRest_2 (d : Nat) (n : Nat) (e : Nat) (x1 : Int) {out : Out} : ∀ (F : Nat) (y1 : Int) (σ2 : Hp) (j13 : Int × Hp), f_SP_leaveRest_2 x1 F y1 σ2 = some j13 → Go none (Ev (d + 0)) mt154 48 [some (pvR 8 0 112), some (pvL x1), none, some (pvI j13.1)] [] (true, n, e, j13.2) out → Go none (Ev (d + 0)) mt154 2 [some (pvR 8 0 112), some (pvL x1), none, some (pvI y1)] [] (true, n, e, σ2) out := by
  intro F
  induction F with
  | zero =>
    intro _ _ _ h
    intro _
    rw [f_SP_leaveRest_2] at h
    cases h
  | succ F ih =>
    intro y1 σ2 j13 h hx
    rw [f_SP_leaveRest_2] at h
    refine go_iload_n (pc' := 3) dX8_leaveRest_2 rfl rfl ?_
    refine go_aload_n (pc' := 4) dX8_leaveRest_3 rfl rfl (Nat.le_of_ble_eq_true rfl) ?_
    refine go_getI (pc' := 7) dX8_leaveRest_4 rfl rf_8_27 rfl ?_
    refine go_icmp_ge (t := 48) (pc' := 10) dX8_leaveRest_7 rfl rfl (fun c12 => ?_) (fun c12 => ?_)
    · rw [if_pos (show (σ2 112 0) ≤ y1 from c12)] at h
      cases h
      exact hx
    · rw [if_neg (show ¬ ((σ2 112 0) ≤ y1) from c12)] at h
      refine go_aload_n (pc' := 11) dX8_leaveRest_10 rfl rfl (Nat.le_of_ble_eq_true rfl) ?_
      refine go_getR (k' := 13) (L0 := 50) (P' := 114) (pc' := 14) dX8_leaveRest_11 rfl rf_8_15 rfl rfl (by omega) ?_
      refine go_iload_n (pc' := 15) dX8_leaveRest_14 rfl rfl ?_
      refine go_iload_n (pc' := 16) dX8_leaveRest_15 rfl rfl ?_
      obtain ⟨j3, k4, h⟩ := bd h
      have k4J : Go none (Ev (d + 0)) mt154 41 [some (pvR 8 0 112), some (pvL x1), none, some (pvI y1)] [pvL j3, pvI y1, pvR 13 50 114] (true, n, e, σ2) out := by
        obtain ⟨g9, h⟩ := gd h
        refine go_last (pc' := 42) dX8_leaveRest_41 rfl g9 ?_
        obtain ⟨g10, h⟩ := gd h
        refine go_iinc (L' := [some (pvR 8 0 112), some (pvL x1), none, some (pvI (y1 + 1))]) (pc' := 45) dX8_leaveRest_42 rfl rfl g10 rfl ?_
        refine go_goto (t := 2) dX8_leaveRest_45 rfl ?_
        exact ih (y1 + 1) (hset σ2 114 y1 j3) _ h hx
      clear h
      have h := k4
      refine go_if_ne (t := 35) (pc' := 19) dX8_leaveRest_16 rfl rfl (fun c11 => ?_) (fun c11 => ?_)
      · rw [if_pos (show y1 ≠ 0 from c11)] at h
        refine go_aload_n (pc' := 36) dX8_leaveRest_35 rfl rfl (Nat.le_of_ble_eq_true rfl) ?_
        refine go_getR (k' := 13) (L0 := 50) (P' := 113) (pc' := 39) dX8_leaveRest_36 rfl rf_8_9 rfl rfl (by omega) ?_
        refine go_iload_n (pc' := 40) dX8_leaveRest_39 rfl rfl ?_
        obtain ⟨g5, h⟩ := gd h
        refine go_lald (pc' := 41) dX8_leaveRest_40 rfl g5 ?_
        cases h
        exact k4J
      · rw [if_neg (show ¬ (y1 ≠ 0) from c11)] at h
        refine go_aload_n (pc' := 20) dX8_leaveRest_19 rfl rfl (Nat.le_of_ble_eq_true rfl) ?_
        refine go_getL (pc' := 23) dX8_leaveRest_20 rfl rf_8_31 rfl ?_
        refine go_lload_n (pc' := 24) dX8_leaveRest_23 rfl rfl ?_
        refine go_aload_n (pc' := 25) dX8_leaveRest_24 rfl rfl (Nat.le_of_ble_eq_true rfl) ?_
        refine go_getR (k' := 13) (L0 := 50) (P' := 113) (pc' := 28) dX8_leaveRest_25 rfl rf_8_9 rfl rfl (by omega) ?_
        refine go_iconst (pc' := 29) dX8_leaveRest_28 rfl (r32_c rfl) ?_
        obtain ⟨g6, h⟩ := gd h
        refine go_lald (pc' := 30) dX8_leaveRest_29 rfl g6 ?_
        obtain ⟨g7, h⟩ := gd h
        refine go_lsub (pc' := 31) dX8_leaveRest_30 rfl g7 ?_
        obtain ⟨g8, h⟩ := gd h
        refine go_lsub (pc' := 32) dX8_leaveRest_31 rfl g8 ?_
        refine go_goto (t := 41) dX8_leaveRest_32 rfl ?_
        cases h
        exact k4J

set_option maxRecDepth 10000 in
theorem l_SP_leaveRest (d : Nat) (n e : Nat) (σ : Hp) (x1 : Int) (r : Hp) (h : f_SP_leaveRest σ x1 = some r) : Ev (d + 1) 154 [pvR 8 0 112, pvL x1] (true, n, e, σ) (0, none, true, n, e, r) := by
  unfold f_SP_leaveRest at h
  refine Ev.of mtE154 rfl rfl rfl rfl ?_
  show Go none (Ev (d + 0)) mt154 0 [some (pvR 8 0 112), some (pvL x1), none, none] [] (true, n, e, σ) (0, none, true, n, e, r)
  refine go_iconst (pc' := 1) dX8_leaveRest_0 rfl (r32_c rfl) ?_
  refine go_istore_n (L' := [some (pvR 8 0 112), some (pvL x1), none, some (pvI 0)]) (pc' := 2) dX8_leaveRest_1 rfl (Nat.le_of_ble_eq_true rfl) rfl ?_
  obtain ⟨j14, k15, h⟩ := bd h
  refine l_SP_leaveRest_2 d n e x1 zFuel 0 σ _ k15 ?_
  cases h
  exact go_vret dX8_leaveRest_48 rfl rfl

set_option maxRecDepth 10000 in
theorem l_SP_greatestRemainder_4 (d : Nat) (n : Nat) (e : Nat) (σ : Hp) {out : Out} : ∀ (F : Nat) (y1 : Int) (y2 : Int) (j10 : Int × Int), f_SP_greatestRemainder_4 σ F y1 y2 = some j10 → Go none (Ev (d + 0)) mt156 36 [some (pvR 8 0 112), some (pvI j10.1), some (pvI j10.2)] [] (true, n, e, σ) out → Go none (Ev (d + 0)) mt156 4 [some (pvR 8 0 112), some (pvI y1), some (pvI y2)] [] (true, n, e, σ) out := by
  intro F
  induction F with
  | zero =>
    intro _ _ _ h
    intro _
    rw [f_SP_greatestRemainder_4] at h
    cases h
  | succ F ih =>
    intro y1 y2 j10 h hx
    rw [f_SP_greatestRemainder_4] at h
    refine go_iload_n (pc' := 5) dX8_greatestRemainder_4 rfl rfl ?_
    refine go_aload_n (pc' := 6) dX8_greatestRemainder_5 rfl rfl (Nat.le_of_ble_eq_true rfl) ?_
    refine go_getI (pc' := 9) dX8_greatestRemainder_6 rfl rf_8_27 rfl ?_
    refine go_icmp_ge (t := 36) (pc' := 12) dX8_greatestRemainder_9 rfl rfl (fun c9 => ?_) (fun c9 => ?_)
    · rw [if_pos (show (σ 112 0) ≤ y2 from c9)] at h
      cases h
      exact hx
    · rw [if_neg (show ¬ ((σ 112 0) ≤ y2) from c9)] at h
      refine go_aload_n (pc' := 13) dX8_greatestRemainder_12 rfl rfl (Nat.le_of_ble_eq_true rfl) ?_
      refine go_getR (k' := 13) (L0 := 50) (P' := 115) (pc' := 16) dX8_greatestRemainder_13 rfl rf_8_18 rfl rfl (by omega) ?_
      refine go_iload_n (pc' := 17) dX8_greatestRemainder_16 rfl rfl ?_
      obtain ⟨g3, h⟩ := gd h
      refine go_lald (pc' := 18) dX8_greatestRemainder_17 rfl g3 ?_
      refine go_aload_n (pc' := 19) dX8_greatestRemainder_18 rfl rfl (Nat.le_of_ble_eq_true rfl) ?_
      refine go_getR (k' := 13) (L0 := 50) (P' := 115) (pc' := 22) dX8_greatestRemainder_19 rfl rf_8_18 rfl rfl (by omega) ?_
      refine go_iload_n (pc' := 23) dX8_greatestRemainder_22 rfl rfl ?_
      obtain ⟨g4, h⟩ := gd h
      refine go_lald (pc' := 24) dX8_greatestRemainder_23 rfl g4 ?_
      refine go_lcmp (pc' := 25) dX8_greatestRemainder_24 rfl ?_
      obtain ⟨j5, k6, h⟩ := bd h
      have k6J : Go none (Ev (d + 0)) mt156 30 [some (pvR 8 0 112), some (pvI j5), some (pvI y2)] [] (true, n, e, σ) out := by
        obtain ⟨g7, h⟩ := gd h
        refine go_iinc (L' := [some (pvR 8 0 112), some (pvI j5), some (pvI (y2 + 1))]) (pc' := 33) dX8_greatestRemainder_30 rfl rfl g7 rfl ?_
        refine go_goto (t := 4) dX8_greatestRemainder_33 rfl ?_
        exact ih j5 (y2 + 1) _ h hx
      clear h
      have h := k6
      refine go_if_le (t := 30) (pc' := 28) dX8_greatestRemainder_25 rfl rfl (fun c8 => ?_) (fun c8 => ?_)
      · rw [if_pos (show (lcm (σ 115 y2) (σ 115 y1)) ≤ 0 from c8)] at h
        cases h
        exact k6J
      · rw [if_neg (show ¬ ((lcm (σ 115 y2) (σ 115 y1)) ≤ 0) from c8)] at h
        refine go_iload_n (pc' := 29) dX8_greatestRemainder_28 rfl rfl ?_
        refine go_istore_n (L' := [some (pvR 8 0 112), some (pvI y2), some (pvI y2)]) (pc' := 30) dX8_greatestRemainder_29 rfl (Nat.le_of_ble_eq_true rfl) rfl ?_
        cases h
        exact k6J

set_option maxRecDepth 10000 in
theorem l_SP_greatestRemainder (d : Nat) (n e : Nat) (σ : Hp) (r : Int) (h : f_SP_greatestRemainder σ = some r) : Ev (d + 1) 156 [pvR 8 0 112] (true, n, e, σ) (0, some (pvI r), true, n, e, σ) := by
  unfold f_SP_greatestRemainder at h
  refine Ev.of mtE156 rfl rfl rfl rfl ?_
  show Go none (Ev (d + 0)) mt156 0 [some (pvR 8 0 112), none, none] [] (true, n, e, σ) (0, some (pvI r), true, n, e, σ)
  refine go_iconst (pc' := 1) dX8_greatestRemainder_0 rfl (r32_c rfl) ?_
  refine go_istore_n (L' := [some (pvR 8 0 112), some (pvI 0), none]) (pc' := 2) dX8_greatestRemainder_1 rfl (Nat.le_of_ble_eq_true rfl) rfl ?_
  refine go_iconst (pc' := 3) dX8_greatestRemainder_2 rfl (r32_c rfl) ?_
  refine go_istore_n (L' := [some (pvR 8 0 112), some (pvI 0), some (pvI 1)]) (pc' := 4) dX8_greatestRemainder_3 rfl (Nat.le_of_ble_eq_true rfl) rfl ?_
  obtain ⟨j11, k12, h⟩ := bd h
  refine l_SP_greatestRemainder_4 d n e σ zFuel 0 1 _ k12 ?_
  refine go_iload_n (pc' := 37) dX8_greatestRemainder_36 rfl rfl ?_
  cases h
  exact go_iret dX8_greatestRemainder_37 rfl rfl

set_option maxRecDepth 10000 in
theorem l_SP_byWeights_15 (d : Nat) (n : Nat) (e : Nat) (x1 : Int) {out : Out} : ∀ (F : Nat) (y1 : Int) (y2 : Int) (σ3 : Hp) (j16 : Int × Int × Hp), f_SP_byWeights_15 x1 F y1 y2 σ3 = some j16 → Go none (Ev (d + 1)) mt155 82 [some (pvR 8 0 112), some (pvL x1), none, some (pvL j16.1), none, some (pvI j16.2.1), none] [] (true, n, e, j16.2.2) out → Go none (Ev (d + 1)) mt155 15 [some (pvR 8 0 112), some (pvL x1), none, some (pvL y1), none, some (pvI y2), none] [] (true, n, e, σ3) out := by
  intro F
  induction F with
  | zero =>
    intro _ _ _ _ h
    intro _
    rw [f_SP_byWeights_15] at h
    cases h
  | succ F ih =>
    intro y1 y2 σ3 j16 h hx
    rw [f_SP_byWeights_15] at h
    refine go_iload (pc' := 17) dX8_byWeights_15 rfl rfl ?_
    refine go_aload_n (pc' := 18) dX8_byWeights_17 rfl rfl (Nat.le_of_ble_eq_true rfl) ?_
    refine go_getI (pc' := 21) dX8_byWeights_18 rfl rf_8_27 rfl ?_
    refine go_icmp_ge (t := 82) (pc' := 24) dX8_byWeights_21 rfl rfl (fun c15 => ?_) (fun c15 => ?_)
    · rw [if_pos (show (σ3 112 0) ≤ y2 from c15)] at h
      cases h
      exact hx
    · rw [if_neg (show ¬ ((σ3 112 0) ≤ y2) from c15)] at h
      refine go_aload_n (pc' := 25) dX8_byWeights_24 rfl rfl (Nat.le_of_ble_eq_true rfl) ?_
      refine go_getR (k' := 13) (L0 := 50) (P' := 114) (pc' := 28) dX8_byWeights_25 rfl rf_8_15 rfl rfl (by omega) ?_
      refine go_iload (pc' := 30) dX8_byWeights_28 rfl rfl ?_
      refine go_aload_n (pc' := 31) dX8_byWeights_30 rfl rfl (Nat.le_of_ble_eq_true rfl) ?_
      refine go_getL (pc' := 34) dX8_byWeights_31 rfl rf_8_31 rfl ?_
      refine go_aload_n (pc' := 35) dX8_byWeights_34 rfl rfl (Nat.le_of_ble_eq_true rfl) ?_
      refine go_getR (k' := 13) (L0 := 50) (P' := 113) (pc' := 38) dX8_byWeights_35 rfl rf_8_9 rfl rfl (by omega) ?_
      refine go_iload (pc' := 40) dX8_byWeights_38 rfl rfl ?_
      obtain ⟨g4, h⟩ := gd h
      refine go_lald (pc' := 41) dX8_byWeights_40 rfl g4 ?_
      obtain ⟨g5, h⟩ := gd h
      refine go_lmul (pc' := 42) dX8_byWeights_41 rfl g5 ?_
      refine go_lload_n (pc' := 43) dX8_byWeights_42 rfl rfl ?_
      obtain ⟨g6, h⟩ := gd h
      refine go_ldiv (pc' := 44) dX8_byWeights_43 rfl g6 ?_
      obtain ⟨g7, h⟩ := gd h
      refine go_last (pc' := 45) dX8_byWeights_44 rfl g7 ?_
      refine go_aload_n (pc' := 46) dX8_byWeights_45 rfl rfl (Nat.le_of_ble_eq_true rfl) ?_
      refine go_getR (k' := 13) (L0 := 50) (P' := 115) (pc' := 49) dX8_byWeights_46 rfl rf_8_18 rfl rfl (by omega) ?_
      refine go_iload (pc' := 51) dX8_byWeights_49 rfl rfl ?_
      refine go_aload_n (pc' := 52) dX8_byWeights_51 rfl rfl (Nat.le_of_ble_eq_true rfl) ?_
      refine go_getL (pc' := 55) dX8_byWeights_52 rfl rf_8_31 rfl ?_
      refine go_aload_n (pc' := 56) dX8_byWeights_55 rfl rfl (Nat.le_of_ble_eq_true rfl) ?_
      refine go_getR (k' := 13) (L0 := 50) (P' := 113) (pc' := 59) dX8_byWeights_56 rfl rf_8_9 rfl rfl (by omega) ?_
      refine go_iload (pc' := 61) dX8_byWeights_59 rfl rfl ?_
      obtain ⟨g8, h⟩ := gd h
      refine go_lald (pc' := 62) dX8_byWeights_61 rfl g8 ?_
      obtain ⟨g9, h⟩ := gd h
      refine go_lmul (pc' := 63) dX8_byWeights_62 rfl g9 ?_
      refine go_lload_n (pc' := 64) dX8_byWeights_63 rfl rfl ?_
      obtain ⟨g10, h⟩ := gd h
      refine go_lrem (pc' := 65) dX8_byWeights_64 rfl g10 ?_
      obtain ⟨g11, h⟩ := gd h
      refine go_last (pc' := 66) dX8_byWeights_65 rfl g11 ?_
      refine go_lload_n (pc' := 67) dX8_byWeights_66 rfl rfl ?_
      refine go_aload_n (pc' := 68) dX8_byWeights_67 rfl rfl (Nat.le_of_ble_eq_true rfl) ?_
      refine go_getR (k' := 13) (L0 := 50) (P' := 114) (pc' := 71) dX8_byWeights_68 rfl rf_8_15 rfl rfl (by omega) ?_
      refine go_iload (pc' := 73) dX8_byWeights_71 rfl rfl ?_
      obtain ⟨g12, h⟩ := gd h
      refine go_lald (pc' := 74) dX8_byWeights_73 rfl g12 ?_
      obtain ⟨g13, h⟩ := gd h
      refine go_lsub (pc' := 75) dX8_byWeights_74 rfl g13 ?_
      refine go_lstore_n (L' := [some (pvR 8 0 112), some (pvL x1), none, some (pvL (y1 - ((hset (hset σ3 114 y2 (Int.tdiv ((σ3 112 1) * (σ3 113 y2)) x1)) 115 y2 (Int.tmod (((hset σ3 114 y2 (Int.tdiv ((σ3 112 1) * (σ3 113 y2)) x1)) 112 1) * ((hset σ3 114 y2 (Int.tdiv ((σ3 112 1) * (σ3 113 y2)) x1)) 113 y2)) x1)) 114 y2))), none, some (pvI y2), none]) (pc' := 76) dX8_byWeights_75 rfl (Nat.le_of_ble_eq_true rfl) rfl ?_
      obtain ⟨g14, h⟩ := gd h
      refine go_iinc (L' := [some (pvR 8 0 112), some (pvL x1), none, some (pvL (y1 - ((hset (hset σ3 114 y2 (Int.tdiv ((σ3 112 1) * (σ3 113 y2)) x1)) 115 y2 (Int.tmod (((hset σ3 114 y2 (Int.tdiv ((σ3 112 1) * (σ3 113 y2)) x1)) 112 1) * ((hset σ3 114 y2 (Int.tdiv ((σ3 112 1) * (σ3 113 y2)) x1)) 113 y2)) x1)) 114 y2))), none, some (pvI (y2 + 1)), none]) (pc' := 79) dX8_byWeights_76 rfl rfl g14 rfl ?_
      refine go_goto (t := 15) dX8_byWeights_79 rfl ?_
      exact ih (y1 - ((hset (hset σ3 114 y2 (Int.tdiv ((σ3 112 1) * (σ3 113 y2)) x1)) 115 y2 (Int.tmod (((hset σ3 114 y2 (Int.tdiv ((σ3 112 1) * (σ3 113 y2)) x1)) 112 1) * ((hset σ3 114 y2 (Int.tdiv ((σ3 112 1) * (σ3 113 y2)) x1)) 113 y2)) x1)) 114 y2)) (y2 + 1) (hset (hset σ3 114 y2 (Int.tdiv ((σ3 112 1) * (σ3 113 y2)) x1)) 115 y2 (Int.tmod (((hset σ3 114 y2 (Int.tdiv ((σ3 112 1) * (σ3 113 y2)) x1)) 112 1) * ((hset σ3 114 y2 (Int.tdiv ((σ3 112 1) * (σ3 113 y2)) x1)) 113 y2)) x1)) _ h hx

set_option maxRecDepth 10000 in
theorem l_SP_byWeights_85 (d : Nat) (n : Nat) (e : Nat) (x1 : Int) (j17 : Int × Int × Hp) {out : Out} : ∀ (F : Nat) (y19 : Int) (σ20 : Hp) (j30 : Int × Hp), f_SP_byWeights_85 j17 F y19 σ20 = some j30 → Go none (Ev (d + 1)) mt155 135 [some (pvR 8 0 112), some (pvL x1), none, some (pvL j17.1), none, some (pvI j30.1), none] [] (true, n, e, j30.2) out → Go none (Ev (d + 1)) mt155 85 [some (pvR 8 0 112), some (pvL x1), none, some (pvL j17.1), none, some (pvI y19), none] [] (true, n, e, σ20) out := by
  intro F
  induction F with
  | zero =>
    intro _ _ _ h
    intro _
    rw [f_SP_byWeights_85] at h
    cases h
  | succ F ih =>
    intro y19 σ20 j30 h hx
    rw [f_SP_byWeights_85] at h
    refine go_iload (pc' := 87) dX8_byWeights_85 rfl rfl ?_
    refine go_i2l (pc' := 88) dX8_byWeights_87 rfl ?_
    refine go_lload_n (pc' := 89) dX8_byWeights_88 rfl rfl ?_
    refine go_lcmp (pc' := 90) dX8_byWeights_89 rfl ?_
    refine go_if_ge (t := 135) (pc' := 93) dX8_byWeights_90 rfl rfl (fun c29 => ?_) (fun c29 => ?_)
    · rw [if_pos (show 0 ≤ (lcm y19 j17.1) from c29)] at h
      cases h
      exact hx
    · rw [if_neg (show ¬ (0 ≤ (lcm y19 j17.1)) from c29)] at h
      refine go_iload (pc' := 95) dX8_byWeights_93 rfl rfl ?_
      refine go_aload_n (pc' := 96) dX8_byWeights_95 rfl rfl (Nat.le_of_ble_eq_true rfl) ?_
      refine go_getI (pc' := 99) dX8_byWeights_96 rfl rf_8_27 rfl ?_
      refine go_icmp_ge (t := 135) (pc' := 102) dX8_byWeights_99 rfl rfl (fun c28 => ?_) (fun c28 => ?_)
      · rw [if_pos (show (σ20 112 0) ≤ y19 from c28)] at h
        cases h
        exact hx
      · rw [if_neg (show ¬ ((σ20 112 0) ≤ y19) from c28)] at h
        refine go_aload_n (pc' := 103) dX8_byWeights_102 rfl rfl (Nat.le_of_ble_eq_true rfl) ?_
        obtain ⟨v21, k22, h⟩ := bd h
        have k22 := l_SP_greatestRemainder (d + 0) n e σ20 _ k22
        refine go_call (kc := 156) (Mc := mt156) (v := some (pvI v21)) (w' := (true, n, e, σ20)) (pc' := 106) (st' := [pvI v21]) [pvR 8 0 112] [] (Or.inl rfl) dX8_byWeights_103 rfl rm_8_45 mtE156 rfl rfl rfl (Nat.le_of_ble_eq_true rfl) (Or.inr ⟨_, _, 112, rfl, Or.inl rfl⟩) k22 rfl ?_
        refine go_istore (L' := [some (pvR 8 0 112), some (pvL x1), none, some (pvL j17.1), none, some (pvI y19), some (pvI v21)]) (pc' := 108) dX8_byWeights_106 rfl (Nat.le_of_ble_eq_true rfl) rfl ?_
        refine go_aload_n (pc' := 109) dX8_byWeights_108 rfl rfl (Nat.le_of_ble_eq_true rfl) ?_
        refine go_getR (k' := 13) (L0 := 50) (P' := 114) (pc' := 112) dX8_byWeights_109 rfl rf_8_15 rfl rfl (by omega) ?_
        refine go_iload (pc' := 114) dX8_byWeights_112 rfl rfl ?_
        refine go_dup2 (pc' := 115) dX8_byWeights_114 rfl (Nat.ne_of_beq_eq_false rfl) (Nat.ne_of_beq_eq_false rfl) ?_
        obtain ⟨g23, h⟩ := gd h
        refine go_lald (pc' := 116) dX8_byWeights_115 rfl g23 ?_
        refine go_lconst (z := 1) (pc' := 117) dX8_byWeights_116 rfl rfl ?_
        obtain ⟨g24, h⟩ := gd h
        refine go_ladd (pc' := 118) dX8_byWeights_117 rfl g24 ?_
        obtain ⟨g25, h⟩ := gd h
        refine go_last (pc' := 119) dX8_byWeights_118 rfl g25 ?_
        refine go_aload_n (pc' := 120) dX8_byWeights_119 rfl rfl (Nat.le_of_ble_eq_true rfl) ?_
        refine go_getR (k' := 13) (L0 := 50) (P' := 115) (pc' := 123) dX8_byWeights_120 rfl rf_8_18 rfl rfl (by omega) ?_
        refine go_iload (pc' := 125) dX8_byWeights_123 rfl rfl ?_
        refine go_ldc2 (pc' := 128) dX8_byWeights_125 rfl (r64_c rfl) rc_8_49 ?_
        obtain ⟨g26, h⟩ := gd h
        refine go_last (pc' := 129) dX8_byWeights_128 rfl g26 ?_
        obtain ⟨g27, h⟩ := gd h
        refine go_iinc (L' := [some (pvR 8 0 112), some (pvL x1), none, some (pvL j17.1), none, some (pvI (y19 + 1)), some (pvI v21)]) (pc' := 132) dX8_byWeights_129 rfl rfl g27 rfl ?_
        refine go_goto (t := 85) dX8_byWeights_132 rfl ?_
        exact go_sub (ih (y19 + 1) (hset (hset σ20 114 v21 ((σ20 114 v21) + 1)) 115 v21 (-1)) _ h hx) ⟨Or.inr rfl, Or.inr rfl, Or.inr rfl, Or.inr rfl, Or.inr rfl, Or.inr rfl, Or.inl rfl, trivial⟩

set_option maxRecDepth 10000 in
theorem l_SP_byWeights (d : Nat) (n e : Nat) (σ : Hp) (x1 : Int) (r : Hp) (h : f_SP_byWeights σ x1 = some r) : Ev (d + 2) 155 [pvR 8 0 112, pvL x1] (true, n, e, σ) (0, none, true, n, e, r) := by
  unfold f_SP_byWeights at h
  refine Ev.of mtE155 rfl rfl rfl rfl ?_
  show Go none (Ev (d + 1)) mt155 0 [some (pvR 8 0 112), some (pvL x1), none, none, none, none, none] [] (true, n, e, σ) (0, none, true, n, e, r)
  refine go_lload_n (pc' := 1) dX8_byWeights_0 rfl rfl ?_
  refine go_lconst (z := 0) (pc' := 2) dX8_byWeights_1 rfl rfl ?_
  refine go_lcmp (pc' := 3) dX8_byWeights_2 rfl ?_
  refine go_if_gt (t := 7) (pc' := 6) dX8_byWeights_3 rfl rfl (fun c33 => ?_) (fun c33 => ?_)
  · rw [if_pos (show 0 < (lcm x1 0) from c33)] at h
    refine go_aload_n (pc' := 8) dX8_byWeights_7 rfl rfl (Nat.le_of_ble_eq_true rfl) ?_
    refine go_getL (pc' := 11) dX8_byWeights_8 rfl rf_8_31 rfl ?_
    refine go_lstore_n (L' := [some (pvR 8 0 112), some (pvL x1), none, some (pvL (σ 112 1)), none, none, none]) (pc' := 12) dX8_byWeights_11 rfl (Nat.le_of_ble_eq_true rfl) rfl ?_
    refine go_iconst (pc' := 13) dX8_byWeights_12 rfl (r32_c rfl) ?_
    refine go_istore (L' := [some (pvR 8 0 112), some (pvL x1), none, some (pvL (σ 112 1)), none, some (pvI 0), none]) (pc' := 15) dX8_byWeights_13 rfl (Nat.le_of_ble_eq_true rfl) rfl ?_
    obtain ⟨j17, k18, h⟩ := bd h
    refine l_SP_byWeights_15 d n e x1 zFuel (σ 112 1) 0 σ _ k18 ?_
    refine go_iconst (pc' := 83) dX8_byWeights_82 rfl (r32_c rfl) ?_
    refine go_istore (L' := [some (pvR 8 0 112), some (pvL x1), none, some (pvL j17.1), none, some (pvI 0), none]) (pc' := 85) dX8_byWeights_83 rfl (Nat.le_of_ble_eq_true rfl) rfl ?_
    obtain ⟨j31, k32, h⟩ := bd h
    refine l_SP_byWeights_85 d n e x1 j17 zFuel 0 j17.2.2 _ k32 ?_
    cases h
    exact go_vret dX8_byWeights_135 rfl rfl
  · rw [if_neg (show ¬ (0 < (lcm x1 0)) from c33)] at h
    cases h
    exact go_vret dX8_byWeights_6 rfl rfl

set_option maxRecDepth 10000 in
theorem l_SP_equally_10 (d : Nat) (n : Nat) (e : Nat)  {out : Out} : ∀ (F : Nat) (y1 : Int) (σ2 : Hp) (j12 : Int × Hp), f_SP_equally_10 F y1 σ2 = some j12 → Go none (Ev (d + 0)) mt157 63 [some (pvR 8 0 112), some (pvI j12.1)] [] (true, n, e, j12.2) out → Go none (Ev (d + 0)) mt157 10 [some (pvR 8 0 112), some (pvI y1)] [] (true, n, e, σ2) out := by
  intro F
  induction F with
  | zero =>
    intro _ _ _ h
    intro _
    rw [f_SP_equally_10] at h
    cases h
  | succ F ih =>
    intro y1 σ2 j12 h hx
    rw [f_SP_equally_10] at h
    refine go_iload_n (pc' := 11) dX8_equally_10 rfl rfl ?_
    refine go_aload_n (pc' := 12) dX8_equally_11 rfl rfl (Nat.le_of_ble_eq_true rfl) ?_
    refine go_getI (pc' := 15) dX8_equally_12 rfl rf_8_27 rfl ?_
    refine go_icmp_ge (t := 63) (pc' := 18) dX8_equally_15 rfl rfl (fun c11 => ?_) (fun c11 => ?_)
    · rw [if_pos (show (σ2 112 0) ≤ y1 from c11)] at h
      cases h
      exact hx
    · rw [if_neg (show ¬ ((σ2 112 0) ≤ y1) from c11)] at h
      refine go_aload_n (pc' := 19) dX8_equally_18 rfl rfl (Nat.le_of_ble_eq_true rfl) ?_
      refine go_getR (k' := 13) (L0 := 50) (P' := 114) (pc' := 22) dX8_equally_19 rfl rf_8_15 rfl rfl (by omega) ?_
      refine go_iload_n (pc' := 23) dX8_equally_22 rfl rfl ?_
      refine go_aload_n (pc' := 24) dX8_equally_23 rfl rfl (Nat.le_of_ble_eq_true rfl) ?_
      refine go_getL (pc' := 27) dX8_equally_24 rfl rf_8_31 rfl ?_
      refine go_aload_n (pc' := 28) dX8_equally_27 rfl rfl (Nat.le_of_ble_eq_true rfl) ?_
      refine go_getI (pc' := 31) dX8_equally_28 rfl rf_8_27 rfl ?_
      refine go_i2l (pc' := 32) dX8_equally_31 rfl ?_
      obtain ⟨g3, h⟩ := gd h
      refine go_ldiv (pc' := 33) dX8_equally_32 rfl g3 ?_
      refine go_iload_n (pc' := 34) dX8_equally_33 rfl rfl ?_
      refine go_i2l (pc' := 35) dX8_equally_34 rfl ?_
      refine go_aload_n (pc' := 36) dX8_equally_35 rfl rfl (Nat.le_of_ble_eq_true rfl) ?_
      refine go_getL (pc' := 39) dX8_equally_36 rfl rf_8_31 rfl ?_
      refine go_aload_n (pc' := 40) dX8_equally_39 rfl rfl (Nat.le_of_ble_eq_true rfl) ?_
      refine go_getI (pc' := 43) dX8_equally_40 rfl rf_8_27 rfl ?_
      refine go_i2l (pc' := 44) dX8_equally_43 rfl ?_
      obtain ⟨g4, h⟩ := gd h
      refine go_lrem (pc' := 45) dX8_equally_44 rfl g4 ?_
      refine go_lcmp (pc' := 46) dX8_equally_45 rfl ?_
      obtain ⟨j5, k6, h⟩ := bd h
      have k6J : Go none (Ev (d + 0)) mt157 54 [some (pvR 8 0 112), some (pvI y1)] [pvI j5, pvL (Int.tdiv (σ2 112 1) (σ2 112 0)), pvI y1, pvR 13 50 114] (true, n, e, σ2) out := by
        refine go_i2l (pc' := 55) dX8_equally_54 rfl ?_
        obtain ⟨g7, h⟩ := gd h
        refine go_ladd (pc' := 56) dX8_equally_55 rfl g7 ?_
        obtain ⟨g8, h⟩ := gd h
        refine go_last (pc' := 57) dX8_equally_56 rfl g8 ?_
        obtain ⟨g9, h⟩ := gd h
        refine go_iinc (L' := [some (pvR 8 0 112), some (pvI (y1 + 1))]) (pc' := 60) dX8_equally_57 rfl rfl g9 rfl ?_
        refine go_goto (t := 10) dX8_equally_60 rfl ?_
        exact ih (y1 + 1) (hset σ2 114 y1 ((Int.tdiv (σ2 112 1) (σ2 112 0)) + j5)) _ h hx
      clear h
      have h := k6
      refine go_if_ge (t := 53) (pc' := 49) dX8_equally_46 rfl rfl (fun c10 => ?_) (fun c10 => ?_)
      · rw [if_pos (show 0 ≤ (lcm y1 (Int.tmod (σ2 112 1) (σ2 112 0))) from c10)] at h
        refine go_iconst (pc' := 54) dX8_equally_53 rfl (r32_c rfl) ?_
        cases h
        exact k6J
      · rw [if_neg (show ¬ (0 ≤ (lcm y1 (Int.tmod (σ2 112 1) (σ2 112 0)))) from c10)] at h
        refine go_iconst (pc' := 50) dX8_equally_49 rfl (r32_c rfl) ?_
        refine go_goto (t := 54) dX8_equally_50 rfl ?_
        cases h
        exact k6J

set_option maxRecDepth 10000 in
theorem l_SP_equally (d : Nat) (n e : Nat) (σ : Hp) (r : Hp) (h : f_SP_equally σ = some r) : Ev (d + 1) 157 [pvR 8 0 112] (true, n, e, σ) (0, none, true, n, e, r) := by
  unfold f_SP_equally at h
  refine Ev.of mtE157 rfl rfl rfl rfl ?_
  show Go none (Ev (d + 0)) mt157 0 [some (pvR 8 0 112), none] [] (true, n, e, σ) (0, none, true, n, e, r)
  refine go_aload_n (pc' := 1) dX8_equally_0 rfl rfl (Nat.le_of_ble_eq_true rfl) ?_
  refine go_getI (pc' := 4) dX8_equally_1 rfl rf_8_27 rfl ?_
  refine go_if_gt (t := 8) (pc' := 7) dX8_equally_4 rfl rfl (fun c15 => ?_) (fun c15 => ?_)
  · rw [if_pos (show 0 < (σ 112 0) from c15)] at h
    refine go_iconst (pc' := 9) dX8_equally_8 rfl (r32_c rfl) ?_
    refine go_istore_n (L' := [some (pvR 8 0 112), some (pvI 0)]) (pc' := 10) dX8_equally_9 rfl (Nat.le_of_ble_eq_true rfl) rfl ?_
    obtain ⟨j13, k14, h⟩ := bd h
    refine l_SP_equally_10 d n e zFuel 0 σ _ k14 ?_
    cases h
    exact go_vret dX8_equally_63 rfl rfl
  · rw [if_neg (show ¬ (0 < (σ 112 0)) from c15)] at h
    cases h
    exact go_vret dX8_equally_7 rfl rfl

set_option maxRecDepth 10000 in
theorem l_SP_share_17 (d : Nat) (n : Nat) (e : Nat) (σ : Hp) (x1 : Int) {out : Out} : ∀ (F : Nat) (y3 : Int) (y4 : Int) (y5 : Int) (j15 : Int × Int × Int), f_SP_share_17 σ F y3 y4 y5 = some j15 → Go none (Ev (d + 2)) mt153 66 [some (pvR 8 0 112), some (pvI x1), some (pvL j15.1), none, some (pvI j15.2.1), some (pvI j15.2.2)] [] (true, n, e, σ) out → Go none (Ev (d + 2)) mt153 17 [some (pvR 8 0 112), some (pvI x1), some (pvL y3), none, some (pvI y4), some (pvI y5)] [] (true, n, e, σ) out := by
  intro F
  induction F with
  | zero =>
    intro _ _ _ _ h
    intro _
    rw [f_SP_share_17] at h
    cases h
  | succ F ih =>
    intro y3 y4 y5 j15 h hx
    rw [f_SP_share_17] at h
    refine go_iload (pc' := 19) dX8_share_17 rfl rfl ?_
    refine go_aload_n (pc' := 20) dX8_share_19 rfl rfl (Nat.le_of_ble_eq_true rfl) ?_
    refine go_getI (pc' := 23) dX8_share_20 rfl rf_8_27 rfl ?_
    refine go_icmp_ge (t := 66) (pc' := 26) dX8_share_23 rfl rfl (fun c14 => ?_) (fun c14 => ?_)
    · rw [if_pos (show (σ 112 0) ≤ y5 from c14)] at h
      cases h
      exact hx
    · rw [if_neg (show ¬ ((σ 112 0) ≤ y5) from c14)] at h
      refine go_lload_n (pc' := 27) dX8_share_26 rfl rfl ?_
      refine go_aload_n (pc' := 28) dX8_share_27 rfl rfl (Nat.le_of_ble_eq_true rfl) ?_
      refine go_getR (k' := 13) (L0 := 50) (P' := 113) (pc' := 31) dX8_share_28 rfl rf_8_9 rfl rfl (by omega) ?_
      refine go_iload (pc' := 33) dX8_share_31 rfl rfl ?_
      obtain ⟨g6, h⟩ := gd h
      refine go_lald (pc' := 34) dX8_share_33 rfl g6 ?_
      obtain ⟨g7, h⟩ := gd h
      refine go_ladd (pc' := 35) dX8_share_34 rfl g7 ?_
      refine go_lstore_n (L' := [some (pvR 8 0 112), some (pvI x1), some (pvL (y3 + (σ 113 y5))), none, some (pvI y4), some (pvI y5)]) (pc' := 36) dX8_share_35 rfl (Nat.le_of_ble_eq_true rfl) rfl ?_
      refine go_iload (pc' := 38) dX8_share_36 rfl rfl ?_
      obtain ⟨j8, k9, h⟩ := bd h
      have k9J : Go none (Ev (d + 2)) mt153 58 [some (pvR 8 0 112), some (pvI x1), some (pvL (y3 + (σ 113 y5))), none, some (pvI y4), some (pvI y5)] [pvI j8] (true, n, e, σ) out := by
        refine go_istore (L' := [some (pvR 8 0 112), some (pvI x1), some (pvL (y3 + (σ 113 y5))), none, some (pvI j8), some (pvI y5)]) (pc' := 60) dX8_share_58 rfl (Nat.le_of_ble_eq_true rfl) rfl ?_
        obtain ⟨g12, h⟩ := gd h
        refine go_iinc (L' := [some (pvR 8 0 112), some (pvI x1), some (pvL (y3 + (σ 113 y5))), none, some (pvI j8), some (pvI (y5 + 1))]) (pc' := 63) dX8_share_60 rfl rfl g12 rfl ?_
        refine go_goto (t := 17) dX8_share_63 rfl ?_
        exact ih (y3 + (σ 113 y5)) j8 (y5 + 1) _ h hx
      clear h
      have h := k9
      refine go_if_eq (t := 57) (pc' := 41) dX8_share_38 rfl rfl (fun c13 => ?_) (fun c13 => ?_)
      · rw [if_pos (show y4 = 0 from c13)] at h
        refine go_iconst (pc' := 58) dX8_share_57 rfl (r32_c rfl) ?_
        cases h
        exact k9J
      · rw [if_neg (show ¬ (y4 = 0) from c13)] at h
        refine go_aload_n (pc' := 42) dX8_share_41 rfl rfl (Nat.le_of_ble_eq_true rfl) ?_
        refine go_getR (k' := 13) (L0 := 50) (P' := 113) (pc' := 45) dX8_share_42 rfl rf_8_9 rfl rfl (by omega) ?_
        refine go_iload (pc' := 47) dX8_share_45 rfl rfl ?_
        obtain ⟨g10, h⟩ := gd h
        refine go_lald (pc' := 48) dX8_share_47 rfl g10 ?_
        refine go_lconst (z := 0) (pc' := 49) dX8_share_48 rfl rfl ?_
        refine go_lcmp (pc' := 50) dX8_share_49 rfl ?_
        refine go_if_lt (t := 57) (pc' := 53) dX8_share_50 rfl rfl (fun c11 => ?_) (fun c11 => ?_)
        · rw [if_pos (show (lcm (σ 113 y5) 0) < 0 from c11)] at h
          refine go_iconst (pc' := 58) dX8_share_57 rfl (r32_c rfl) ?_
          cases h
          exact k9J
        · rw [if_neg (show ¬ ((lcm (σ 113 y5) 0) < 0) from c11)] at h
          refine go_iconst (pc' := 54) dX8_share_53 rfl (r32_c rfl) ?_
          refine go_goto (t := 58) dX8_share_54 rfl ?_
          cases h
          exact k9J

set_option maxRecDepth 10000 in
theorem l_SP_share (d : Nat) (n e : Nat) (σ : Hp) (x1 : Int) (r : Hp) (h : f_SP_share σ x1 = some r) : Ev (d + 3) 153 [pvR 8 0 112, pvI x1] (true, n, e, σ) (0, none, true, n, e, r) := by
  unfold f_SP_share at h
  refine Ev.of mtE153 rfl rfl rfl rfl ?_
  show Go none (Ev (d + 2)) mt153 0 [some (pvR 8 0 112), some (pvI x1), none, none, none, none] [] (true, n, e, σ) (0, none, true, n, e, r)
  refine go_lconst (z := 0) (pc' := 1) dX8_share_0 rfl rfl ?_
  refine go_lstore_n (L' := [some (pvR 8 0 112), some (pvI x1), some (pvL 0), none, none, none]) (pc' := 2) dX8_share_1 rfl (Nat.le_of_ble_eq_true rfl) rfl ?_
  refine go_iload_n (pc' := 3) dX8_share_2 rfl rfl ?_
  refine go_iconst (pc' := 4) dX8_share_3 rfl (r32_c rfl) ?_
  obtain ⟨j1, k2, h⟩ := bd h
  have k2J : Go none (Ev (d + 2)) mt153 12 [some (pvR 8 0 112), some (pvI x1), some (pvL 0), none, none, none] [pvI j1] (true, n, e, σ) (0, none, true, n, e, r) := by
    refine go_istore (L' := [some (pvR 8 0 112), some (pvI x1), some (pvL 0), none, some (pvI j1), none]) (pc' := 14) dX8_share_12 rfl (Nat.le_of_ble_eq_true rfl) rfl ?_
    refine go_iconst (pc' := 15) dX8_share_14 rfl (r32_c rfl) ?_
    refine go_istore (L' := [some (pvR 8 0 112), some (pvI x1), some (pvL 0), none, some (pvI j1), some (pvI 0)]) (pc' := 17) dX8_share_15 rfl (Nat.le_of_ble_eq_true rfl) rfl ?_
    obtain ⟨j16, k17, h⟩ := bd h
    refine l_SP_share_17 d n e σ x1 zFuel 0 j1 0 _ k17 ?_
    refine go_iload_n (pc' := 67) dX8_share_66 rfl rfl ?_
    refine go_iconst (pc' := 68) dX8_share_67 rfl (r32_c rfl) ?_
    obtain ⟨j18, k19, h⟩ := bd h
    have k19J : Go none (Ev (d + 2)) mt153 102 [some (pvR 8 0 112), some (pvI x1), some (pvL j16.1), none, some (pvI j16.2.1), some (pvI j16.2.2)] [] (true, n, e, j18) (0, none, true, n, e, r) := by
      cases h
      exact go_vret dX8_share_102 rfl rfl
    clear h
    have h := k19
    refine go_icmp_ne (t := 79) (pc' := 71) dX8_share_68 rfl rfl (fun c30 => ?_) (fun c30 => ?_)
    · rw [if_pos (show x1 ≠ 2 from c30)] at h
      refine go_iload (pc' := 81) dX8_share_79 rfl rfl ?_
      refine go_if_eq (t := 98) (pc' := 84) dX8_share_81 rfl rfl (fun c27 => ?_) (fun c27 => ?_)
      · rw [if_pos (show j16.2.1 = 0 from c27)] at h
        refine go_aload_n (pc' := 99) dX8_share_98 rfl rfl (Nat.le_of_ble_eq_true rfl) ?_
        obtain ⟨v20, k21, h⟩ := bd h
        have k21 := l_SP_equally (d + 1) n e σ _ k21
        refine go_call (kc := 157) (Mc := mt157) (v := none) (w' := (true, n, e, v20)) (pc' := 102) (st' := []) [pvR 8 0 112] [] (Or.inl rfl) dX8_share_99 rfl rm_8_42 mtE157 rfl rfl rfl (Nat.le_of_ble_eq_true rfl) (Or.inr ⟨_, _, 112, rfl, Or.inl rfl⟩) k21 rfl ?_
        cases h
        exact k19J
      · rw [if_neg (show ¬ (j16.2.1 = 0) from c27)] at h
        refine go_lload_n (pc' := 85) dX8_share_84 rfl rfl ?_
        refine go_lconst (z := 0) (pc' := 86) dX8_share_85 rfl rfl ?_
        refine go_lcmp (pc' := 87) dX8_share_86 rfl ?_
        refine go_if_le (t := 98) (pc' := 90) dX8_share_87 rfl rfl (fun c26 => ?_) (fun c26 => ?_)
        · rw [if_pos (show (lcm j16.1 0) ≤ 0 from c26)] at h
          refine go_aload_n (pc' := 99) dX8_share_98 rfl rfl (Nat.le_of_ble_eq_true rfl) ?_
          obtain ⟨v22, k23, h⟩ := bd h
          have k23 := l_SP_equally (d + 1) n e σ _ k23
          refine go_call (kc := 157) (Mc := mt157) (v := none) (w' := (true, n, e, v22)) (pc' := 102) (st' := []) [pvR 8 0 112] [] (Or.inl rfl) dX8_share_99 rfl rm_8_42 mtE157 rfl rfl rfl (Nat.le_of_ble_eq_true rfl) (Or.inr ⟨_, _, 112, rfl, Or.inl rfl⟩) k23 rfl ?_
          cases h
          exact k19J
        · rw [if_neg (show ¬ ((lcm j16.1 0) ≤ 0) from c26)] at h
          refine go_aload_n (pc' := 91) dX8_share_90 rfl rfl (Nat.le_of_ble_eq_true rfl) ?_
          refine go_lload_n (pc' := 92) dX8_share_91 rfl rfl ?_
          obtain ⟨v24, k25, h⟩ := bd h
          have k25 := l_SP_byWeights (d + 0) n e σ j16.1 _ k25
          refine go_call (kc := 155) (Mc := mt155) (v := none) (w' := (true, n, e, v24)) (pc' := 95) (st' := []) [pvR 8 0 112, pvL j16.1] [] (Or.inl rfl) dX8_share_92 rfl rm_8_39 mtE155 rfl rfl rfl (Nat.le_of_ble_eq_true rfl) (Or.inr ⟨_, _, 112, rfl, Or.inl rfl⟩) k25 rfl ?_
          refine go_goto (t := 102) dX8_share_95 rfl ?_
          cases h
          exact k19J
    · rw [if_neg (show ¬ (x1 ≠ 2) from c30)] at h
      refine go_aload_n (pc' := 72) dX8_share_71 rfl rfl (Nat.le_of_ble_eq_true rfl) ?_
      refine go_lload_n (pc' := 73) dX8_share_72 rfl rfl ?_
      obtain ⟨v28, k29, h⟩ := bd h
      have k29 := l_SP_leaveRest (d + 1) n e σ j16.1 _ k29
      refine go_call (kc := 154) (Mc := mt154) (v := none) (w' := (true, n, e, v28)) (pc' := 76) (st' := []) [pvR 8 0 112, pvL j16.1] [] (Or.inl rfl) dX8_share_73 rfl rm_8_35 mtE154 rfl rfl rfl (Nat.le_of_ble_eq_true rfl) (Or.inr ⟨_, _, 112, rfl, Or.inl rfl⟩) k29 rfl ?_
      refine go_goto (t := 102) dX8_share_76 rfl ?_
      cases h
      exact k19J
  clear h
  have h := k2
  refine go_icmp_ne (t := 11) (pc' := 7) dX8_share_4 rfl rfl (fun c31 => ?_) (fun c31 => ?_)
  · rw [if_pos (show x1 ≠ 1 from c31)] at h
    refine go_iconst (pc' := 12) dX8_share_11 rfl (r32_c rfl) ?_
    cases h
    exact k2J
  · rw [if_neg (show ¬ (x1 ≠ 1) from c31)] at h
    refine go_iconst (pc' := 8) dX8_share_7 rfl (r32_c rfl) ?_
    refine go_goto (t := 12) dX8_share_8 rfl ?_
    cases h
    exact k2J

set_option maxRecDepth 10000 in
theorem l_SP_inRange_2 (d : Nat) (n : Nat) (e : Nat) (σ : Hp) : ∀ (F : Nat) (y1 : Int) (r : Int), f_SP_inRange_2 σ F y1 = some r → Go none (Ev (d + 0)) mt158 2 [some (pvR 8 0 112), some (pvI y1)] [] (true, n, e, σ) (0, some (pvI r), true, n, e, σ) := by
  intro F
  induction F with
  | zero =>
    intro _ _ h
    rw [f_SP_inRange_2] at h
    cases h
  | succ F ih =>
    intro y1 r h
    rw [f_SP_inRange_2] at h
    refine go_iload_n (pc' := 3) dX8_inRange_2 rfl rfl ?_
    refine go_aload_n (pc' := 4) dX8_inRange_3 rfl rfl (Nat.le_of_ble_eq_true rfl) ?_
    refine go_getI (pc' := 7) dX8_inRange_4 rfl rf_8_27 rfl ?_
    refine go_icmp_ge (t := 44) (pc' := 10) dX8_inRange_7 rfl rfl (fun c10 => ?_) (fun c10 => ?_)
    · rw [if_pos (show (σ 112 0) ≤ y1 from c10)] at h
      refine go_iconst (pc' := 45) dX8_inRange_44 rfl (r32_c rfl) ?_
      obtain ⟨g2, h⟩ := gd h
      cases h
      exact go_zret dX8_inRange_45 rfl g2 rfl
    · rw [if_neg (show ¬ ((σ 112 0) ≤ y1) from c10)] at h
      refine go_aload_n (pc' := 11) dX8_inRange_10 rfl rfl (Nat.le_of_ble_eq_true rfl) ?_
      refine go_getR (k' := 13) (L0 := 50) (P' := 114) (pc' := 14) dX8_inRange_11 rfl rf_8_15 rfl rfl (by omega) ?_
      refine go_iload_n (pc' := 15) dX8_inRange_14 rfl rfl ?_
      obtain ⟨g3, h⟩ := gd h
      refine go_lald (pc' := 16) dX8_inRange_15 rfl g3 ?_
      refine go_ldc2 (pc' := 19) dX8_inRange_16 rfl (r64_c rfl) rc_8_51 ?_
      refine go_lcmp (pc' := 20) dX8_inRange_19 rfl ?_
      refine go_if_lt (t := 36) (pc' := 23) dX8_inRange_20 rfl rfl (fun c9 => ?_) (fun c9 => ?_)
      · rw [if_pos (show (lcm (σ 114 y1) (-1000000)) < 0 from c9)] at h
        refine go_iconst (pc' := 37) dX8_inRange_36 rfl (r32_c rfl) ?_
        obtain ⟨g4, h⟩ := gd h
        cases h
        exact go_zret dX8_inRange_37 rfl g4 rfl
      · rw [if_neg (show ¬ ((lcm (σ 114 y1) (-1000000)) < 0) from c9)] at h
        refine go_aload_n (pc' := 24) dX8_inRange_23 rfl rfl (Nat.le_of_ble_eq_true rfl) ?_
        refine go_getR (k' := 13) (L0 := 50) (P' := 114) (pc' := 27) dX8_inRange_24 rfl rf_8_15 rfl rfl (by omega) ?_
        refine go_iload_n (pc' := 28) dX8_inRange_27 rfl rfl ?_
        obtain ⟨g5, h⟩ := gd h
        refine go_lald (pc' := 29) dX8_inRange_28 rfl g5 ?_
        refine go_ldc2 (pc' := 32) dX8_inRange_29 rfl (r64_c rfl) rc_8_53 ?_
        refine go_lcmp (pc' := 33) dX8_inRange_32 rfl ?_
        refine go_if_le (t := 38) (pc' := 36) dX8_inRange_33 rfl rfl (fun c8 => ?_) (fun c8 => ?_)
        · rw [if_pos (show (lcm (σ 114 y1) 1000000) ≤ 0 from c8)] at h
          obtain ⟨g6, h⟩ := gd h
          refine go_iinc (L' := [some (pvR 8 0 112), some (pvI (y1 + 1))]) (pc' := 41) dX8_inRange_38 rfl rfl g6 rfl ?_
          refine go_goto (t := 2) dX8_inRange_41 rfl ?_
          exact ih (y1 + 1) _ h
        · rw [if_neg (show ¬ ((lcm (σ 114 y1) 1000000) ≤ 0) from c8)] at h
          refine go_iconst (pc' := 37) dX8_inRange_36 rfl (r32_c rfl) ?_
          obtain ⟨g7, h⟩ := gd h
          cases h
          exact go_zret dX8_inRange_37 rfl g7 rfl

set_option maxRecDepth 10000 in
theorem l_SP_inRange (d : Nat) (n e : Nat) (σ : Hp) (r : Int) (h : f_SP_inRange σ = some r) : Ev (d + 1) 158 [pvR 8 0 112] (true, n, e, σ) (0, some (pvI r), true, n, e, σ) := by
  unfold f_SP_inRange at h
  refine Ev.of mtE158 rfl rfl rfl rfl ?_
  show Go none (Ev (d + 0)) mt158 0 [some (pvR 8 0 112), none] [] (true, n, e, σ) (0, some (pvI r), true, n, e, σ)
  refine go_iconst (pc' := 1) dX8_inRange_0 rfl (r32_c rfl) ?_
  refine go_istore_n (L' := [some (pvR 8 0 112), some (pvI 0)]) (pc' := 2) dX8_inRange_1 rfl (Nat.le_of_ble_eq_true rfl) rfl ?_
  exact l_SP_inRange_2 d n e σ zFuel 0 _ h

set_option maxRecDepth 10000 in
theorem l_SP_shareAt (d : Nat) (n e : Nat) (σ : Hp) (x1 : Int) (r : Int) (h : f_SP_shareAt σ x1 = some r) : Ev (d + 1) 160 [pvR 8 0 112, pvI x1] (true, n, e, σ) (0, some (pvL r), true, n, e, σ) := by
  unfold f_SP_shareAt at h
  refine Ev.of mtE160 rfl rfl rfl rfl ?_
  show Go none (Ev (d + 0)) mt160 0 [some (pvR 8 0 112), some (pvI x1)] [] (true, n, e, σ) (0, some (pvL r), true, n, e, σ)
  refine go_iload_n (pc' := 1) dX8_shareAt_0 rfl rfl ?_
  obtain ⟨j1, k2, h⟩ := bd h
  have k2J : Go none (Ev (d + 0)) mt160 22 [some (pvR 8 0 112), some (pvI x1)] [pvL j1] (true, n, e, σ) (0, some (pvL r), true, n, e, σ) := by
    cases h
    exact go_lret dX8_shareAt_22 rfl rfl
  clear h
  have h := k2
  refine go_if_lt (t := 21) (pc' := 4) dX8_shareAt_1 rfl rfl (fun c5 => ?_) (fun c5 => ?_)
  · rw [if_pos (show x1 < 0 from c5)] at h
    refine go_lconst (z := 0) (pc' := 22) dX8_shareAt_21 rfl rfl ?_
    cases h
    exact k2J
  · rw [if_neg (show ¬ (x1 < 0) from c5)] at h
    refine go_iload_n (pc' := 5) dX8_shareAt_4 rfl rfl ?_
    refine go_aload_n (pc' := 6) dX8_shareAt_5 rfl rfl (Nat.le_of_ble_eq_true rfl) ?_
    refine go_getI (pc' := 9) dX8_shareAt_6 rfl rf_8_27 rfl ?_
    refine go_icmp_ge (t := 21) (pc' := 12) dX8_shareAt_9 rfl rfl (fun c4 => ?_) (fun c4 => ?_)
    · rw [if_pos (show (σ 112 0) ≤ x1 from c4)] at h
      refine go_lconst (z := 0) (pc' := 22) dX8_shareAt_21 rfl rfl ?_
      cases h
      exact k2J
    · rw [if_neg (show ¬ ((σ 112 0) ≤ x1) from c4)] at h
      refine go_aload_n (pc' := 13) dX8_shareAt_12 rfl rfl (Nat.le_of_ble_eq_true rfl) ?_
      refine go_getR (k' := 13) (L0 := 50) (P' := 114) (pc' := 16) dX8_shareAt_13 rfl rf_8_15 rfl rfl (by omega) ?_
      refine go_iload_n (pc' := 17) dX8_shareAt_16 rfl rfl ?_
      obtain ⟨g3, h⟩ := gd h
      refine go_lald (pc' := 18) dX8_shareAt_17 rfl g3 ?_
      refine go_goto (t := 22) dX8_shareAt_18 rfl ?_
      cases h
      exact k2J

set_option maxRecDepth 10000 in
theorem l_C_writeShares_4 (d : Nat) (n : Nat) (e : Nat)  {out : Out} : ∀ (F : Nat) (y1 : Int) (y2 : Int) (σ3 : Hp) (j17 : Int × Int × Hp), f_C_writeShares_4 F y1 y2 σ3 = some j17 → Go none (Ev (d + 6)) mt159 48 [some (pvR 10 0 0), some (pvI j17.1), some (pvI j17.2.1)] [] (true, n, e, j17.2.2) out → Go none (Ev (d + 6)) mt159 4 [some (pvR 10 0 0), some (pvI y1), some (pvI y2)] [] (true, n, e, σ3) out := by
  intro F
  induction F with
  | zero =>
    intro _ _ _ _ h
    intro _
    rw [f_C_writeShares_4] at h
    cases h
  | succ F ih =>
    intro y1 y2 σ3 j17 h hx
    rw [f_C_writeShares_4] at h
    refine go_iload_n (pc' := 5) dX10_writeShares_4 rfl rfl ?_
    refine go_aload_n (pc' := 6) dX10_writeShares_5 rfl rfl (Nat.le_of_ble_eq_true rfl) ?_
    refine go_getR (k' := 6) (L0 := 0) (P' := 116) (pc' := 9) dX10_writeShares_6 rfl rf_10_51 rfl rfl (by omega) ?_
    refine go_getI (pc' := 12) dX10_writeShares_9 rfl rf_10_287 rfl ?_
    refine go_icmp_ge (t := 48) (pc' := 15) dX10_writeShares_12 rfl rfl (fun c16 => ?_) (fun c16 => ?_)
    · rw [if_pos (show (σ3 116 9) ≤ y2 from c16)] at h
      cases h
      exact hx
    · rw [if_neg (show ¬ ((σ3 116 9) ≤ y2) from c16)] at h
      refine go_aload_n (pc' := 16) dX10_writeShares_15 rfl rfl (Nat.le_of_ble_eq_true rfl) ?_
      refine go_aload_n (pc' := 17) dX10_writeShares_16 rfl rfl (Nat.le_of_ble_eq_true rfl) ?_
      refine go_getR (k' := 6) (L0 := 0) (P' := 116) (pc' := 20) dX10_writeShares_17 rfl rf_10_51 rfl rfl (by omega) ?_
      refine go_iload_n (pc' := 21) dX10_writeShares_20 rfl rfl ?_
      obtain ⟨v4, k5, h⟩ := bd h
      have k5 := l_R_rowAt (d + 5) n e σ3 y2 _ k5
      refine go_call (kc := 151) (Mc := mt151) (v := some (pvI v4)) (w' := (true, n, e, σ3)) (pc' := 24) (st' := [pvI v4, pvR 10 0 0]) [pvR 6 0 116, pvI y2] [pvR 10 0 0] (Or.inl rfl) dX10_writeShares_21 rfl rm_10_298 mtE151 rfl rfl rfl (Nat.le_of_ble_eq_true rfl) (Or.inr ⟨_, _, 116, rfl, Or.inl rfl⟩) k5 rfl ?_
      refine go_aload_n (pc' := 25) dX10_writeShares_24 rfl rfl (Nat.le_of_ble_eq_true rfl) ?_
      refine go_getR (k' := 8) (L0 := 0) (P' := 112) (pc' := 28) dX10_writeShares_25 rfl rf_10_42 rfl rfl (by omega) ?_
      refine go_iload_n (pc' := 29) dX10_writeShares_28 rfl rfl ?_
      obtain ⟨v6, k7, h⟩ := bd h
      have k7 := l_SP_shareAt (d + 5) n e σ3 y2 _ k7
      refine go_call (kc := 160) (Mc := mt160) (v := some (pvL v6)) (w' := (true, n, e, σ3)) (pc' := 32) (st' := [pvL v6, pvI v4, pvR 10 0 0]) [pvR 8 0 112, pvI y2] [pvI v4, pvR 10 0 0] (Or.inl rfl) dX10_writeShares_29 rfl rm_10_370 mtE160 rfl rfl rfl (Nat.le_of_ble_eq_true rfl) (Or.inr ⟨_, _, 112, rfl, Or.inl rfl⟩) k7 rfl ?_
      obtain ⟨g8, h⟩ := gd h
      refine go_l2i (pc' := 33) dX10_writeShares_32 rfl g8 ?_
      obtain ⟨v9, k10, h⟩ := bd h
      have k10 := l_C_setNumber (d + 0) n e σ3 v4 v6 _ k10
      refine go_call (kc := 95) (Mc := mt95) (v := some (pvI v9.1)) (w' := (true, n, e, v9.2)) (pc' := 36) (st' := [pvI v9.1]) [pvR 10 0 0, pvI v4, pvI v6] [] (Or.inl rfl) dX10_writeShares_33 rfl rm_10_221 mtE95 rfl rfl rfl (Nat.le_of_ble_eq_true rfl) (Or.inr ⟨_, _, 0, rfl, Or.inl rfl⟩) k10 rfl ?_
      obtain ⟨j11, k12, h⟩ := bd h
      have k12J : Go none (Ev (d + 6)) mt159 42 [some (pvR 10 0 0), some (pvI j11), some (pvI y2)] [] (true, n, e, v9.2) out := by
        obtain ⟨g14, h⟩ := gd h
        refine go_iinc (L' := [some (pvR 10 0 0), some (pvI j11), some (pvI (y2 + 1))]) (pc' := 45) dX10_writeShares_42 rfl rfl g14 rfl ?_
        refine go_goto (t := 4) dX10_writeShares_45 rfl ?_
        exact ih j11 (y2 + 1) v9.2 _ h hx
      clear h
      have h := k12
      refine go_if_eq (t := 42) (pc' := 39) dX10_writeShares_36 rfl rfl (fun c15 => ?_) (fun c15 => ?_)
      · rw [if_pos (show v9.1 = 0 from c15)] at h
        cases h
        exact k12J
      · rw [if_neg (show ¬ (v9.1 = 0) from c15)] at h
        obtain ⟨g13, h⟩ := gd h
        refine go_iinc (L' := [some (pvR 10 0 0), some (pvI (y1 + 1)), some (pvI y2)]) (pc' := 42) dX10_writeShares_39 rfl rfl g13 rfl ?_
        cases h
        exact k12J

set_option maxRecDepth 10000 in
theorem l_C_writeShares (d : Nat) (n e : Nat) (σ : Hp) (r : Int × Hp) (h : f_C_writeShares σ = some r) : Ev (d + 7) 159 [pvR 10 0 0] (true, n, e, σ) (0, some (pvI r.1), true, n, e, r.2) := by
  unfold f_C_writeShares at h
  refine Ev.of mtE159 rfl rfl rfl rfl ?_
  show Go none (Ev (d + 6)) mt159 0 [some (pvR 10 0 0), none, none] [] (true, n, e, σ) (0, some (pvI r.1), true, n, e, r.2)
  refine go_iconst (pc' := 1) dX10_writeShares_0 rfl (r32_c rfl) ?_
  refine go_istore_n (L' := [some (pvR 10 0 0), some (pvI 0), none]) (pc' := 2) dX10_writeShares_1 rfl (Nat.le_of_ble_eq_true rfl) rfl ?_
  refine go_iconst (pc' := 3) dX10_writeShares_2 rfl (r32_c rfl) ?_
  refine go_istore_n (L' := [some (pvR 10 0 0), some (pvI 0), some (pvI 0)]) (pc' := 4) dX10_writeShares_3 rfl (Nat.le_of_ble_eq_true rfl) rfl ?_
  obtain ⟨j18, k19, h⟩ := bd h
  refine l_C_writeShares_4 d n e zFuel 0 0 σ _ k19 ?_
  refine go_iload_n (pc' := 49) dX10_writeShares_48 rfl rfl ?_
  cases h
  exact go_iret dX10_writeShares_49 rfl rfl

set_option maxRecDepth 10000 in
theorem l_C_write_176 (d : Nat) (n : Nat) (e : Nat) (x1 : Int) (x2 : Int) (x3 : Int) (x4 : Int) (x5 : Int) (x6 : Int) (v1 : Nat × Int) {out : Out} : ∀ (F : Nat) (y32 : Int) (σ33 : Hp) (j42 : Int × Hp), f_C_write_176 F y32 σ33 = some j42 → Go none (Ev (d + 7)) mt148 220 [some (pvR 10 0 0), some (pvI x1), some (pvI x2), some (pvI x3), some (pvI x4), some (pvI x5), some (pvI x6), some (pvI v1.2), some (pvI j42.1)] [] (true, n, e, j42.2) out → Go none (Ev (d + 7)) mt148 176 [some (pvR 10 0 0), some (pvI x1), some (pvI x2), some (pvI x3), some (pvI x4), some (pvI x5), some (pvI x6), some (pvI v1.2), some (pvI y32)] [] (true, n, e, σ33) out := by
  intro F
  induction F with
  | zero =>
    intro _ _ _ h
    intro _
    rw [f_C_write_176] at h
    cases h
  | succ F ih =>
    intro y32 σ33 j42 h hx
    rw [f_C_write_176] at h
    refine go_iload (pc' := 178) dX10_write_176 rfl rfl ?_
    refine go_aload_n (pc' := 179) dX10_write_178 rfl rfl (Nat.le_of_ble_eq_true rfl) ?_
    refine go_getR (k' := 6) (L0 := 0) (P' := 116) (pc' := 182) dX10_write_179 rfl rf_10_51 rfl rfl (by omega) ?_
    refine go_getI (pc' := 185) dX10_write_182 rfl rf_10_287 rfl ?_
    refine go_icmp_ge (t := 220) (pc' := 188) dX10_write_185 rfl rfl (fun c41 => ?_) (fun c41 => ?_)
    · rw [if_pos (show (σ33 116 9) ≤ y32 from c41)] at h
      cases h
      exact hx
    · rw [if_neg (show ¬ ((σ33 116 9) ≤ y32) from c41)] at h
      refine go_aload_n (pc' := 189) dX10_write_188 rfl rfl (Nat.le_of_ble_eq_true rfl) ?_
      refine go_getR (k' := 8) (L0 := 0) (P' := 112) (pc' := 192) dX10_write_189 rfl rf_10_42 rfl rfl (by omega) ?_
      refine go_iload (pc' := 194) dX10_write_192 rfl rfl ?_
      refine go_aload_n (pc' := 195) dX10_write_194 rfl rfl (Nat.le_of_ble_eq_true rfl) ?_
      refine go_getR (k' := 1) (L0 := 0) (P' := 101) (pc' := 198) dX10_write_195 rfl rf_10_28 rfl rfl (by omega) ?_
      refine go_aload_n (pc' := 199) dX10_write_198 rfl rfl (Nat.le_of_ble_eq_true rfl) ?_
      refine go_getR (k' := 6) (L0 := 0) (P' := 116) (pc' := 202) dX10_write_199 rfl rf_10_51 rfl rfl (by omega) ?_
      refine go_iload (pc' := 204) dX10_write_202 rfl rfl ?_
      obtain ⟨v34, k35, h⟩ := bd h
      have k35 := l_R_rowAt (d + 6) n e σ33 y32 _ k35
      refine go_call (kc := 151) (Mc := mt151) (v := some (pvI v34)) (w' := (true, n, e, σ33)) (pc' := 207) (st' := [pvI v34, pvR 1 0 101, pvI y32, pvR 8 0 112]) [pvR 6 0 116, pvI y32] [pvR 1 0 101, pvI y32, pvR 8 0 112] (Or.inl rfl) dX10_write_204 rfl rm_10_298 mtE151 rfl rfl rfl (Nat.le_of_ble_eq_true rfl) (Or.inr ⟨_, _, 116, rfl, Or.inl rfl⟩) k35 rfl ?_
      obtain ⟨v36, k37, h⟩ := bd h
      have k37 := l_FR_numberAt (d + 5) n e σ33 v34 _ k37
      refine go_call (kc := 96) (Mc := mt96) (v := some (pvI v36)) (w' := (true, n, e, σ33)) (pc' := 210) (st' := [pvI v36, pvI y32, pvR 8 0 112]) [pvR 1 0 101, pvI v34] [pvI y32, pvR 8 0 112] (Or.inl rfl) dX10_write_207 rfl rm_10_225 mtE96 rfl rfl rfl (Nat.le_of_ble_eq_true rfl) (Or.inr ⟨_, _, 101, rfl, Or.inl rfl⟩) k37 rfl ?_
      refine go_i2l (pc' := 211) dX10_write_210 rfl ?_
      obtain ⟨v38, k39, h⟩ := bd h
      have k39 := l_SP_own (d + 6) n e σ33 y32 v36 _ k39
      refine go_call (kc := 152) (Mc := mt152) (v := none) (w' := (true, n, e, v38)) (pc' := 214) (st' := []) [pvR 8 0 112, pvI y32, pvL v36] [] (Or.inl rfl) dX10_write_211 rfl rm_10_301 mtE152 rfl rfl rfl (Nat.le_of_ble_eq_true rfl) (Or.inr ⟨_, _, 112, rfl, Or.inl rfl⟩) k39 rfl ?_
      obtain ⟨g40, h⟩ := gd h
      refine go_iinc (L' := [some (pvR 10 0 0), some (pvI x1), some (pvI x2), some (pvI x3), some (pvI x4), some (pvI x5), some (pvI x6), some (pvI v1.2), some (pvI (y32 + 1))]) (pc' := 217) dX10_write_214 rfl rfl g40 rfl ?_
      refine go_goto (t := 176) dX10_write_217 rfl ?_
      exact ih (y32 + 1) v38 _ h hx

set_option maxRecDepth 10000 in
theorem l_C_write (d : Nat) (n e : Nat) (σ : Hp) (x1 : Int) (x2 : Int) (x3 : Int) (x4 : Int) (x5 : Int) (x6 : Int) (r : Nat × Int × Hp) (h : f_C_write σ x1 x2 x3 x4 x5 x6 = some r) : Ev (d + 8) 148 [pvR 10 0 0, pvI x1, pvI x2, pvI x3, pvI x4, pvI x5, pvI x6] (true, n, e, σ) (r.1, if r.1 = 0 then some (pvI r.2.1) else none, true, n, e + if r.1 = 0 then 0 else 1, r.2.2) := by
  unfold f_C_write at h
  refine Ev.of mtE148 rfl rfl rfl rfl ?_
  show Go none (Ev (d + 7)) mt148 0 [some (pvR 10 0 0), some (pvI x1), some (pvI x2), some (pvI x3), some (pvI x4), some (pvI x5), some (pvI x6), none, none] [] (true, n, e, σ) (r.1, if r.1 = 0 then some (pvI r.2.1) else none, true, n, e + if r.1 = 0 then 0 else 1, r.2.2)
  refine go_aload_n (pc' := 1) dX10_write_0 rfl rfl (Nat.le_of_ble_eq_true rfl) ?_
  refine go_iload_n (pc' := 2) dX10_write_1 rfl rfl ?_
  refine go_iload_n (pc' := 3) dX10_write_2 rfl rfl ?_
  refine go_iload_n (pc' := 4) dX10_write_3 rfl rfl ?_
  refine go_iload (pc' := 6) dX10_write_4 rfl rfl ?_
  obtain ⟨v1, k2, h⟩ := bd h
  by_cases c3 : v1.1 = 0
  · rw [if_pos c3] at h
    have k2 := l_C_existingCell (d + 4) n e σ x1 x2 x3 x4 _ k2
    rw [c3] at k2
    refine go_call (kc := 77) (Mc := mt77) (v := some (pvI v1.2)) (w' := (true, n, e, σ)) (pc' := 9) (st' := [pvI v1.2]) [pvR 10 0 0, pvI x1, pvI x2, pvI x3, pvI x4] [] (Or.inl rfl) dX10_write_6 rfl rm_10_205 mtE77 rfl rfl rfl (Nat.le_of_ble_eq_true rfl) (Or.inr ⟨_, _, 0, rfl, Or.inl rfl⟩) k2 rfl ?_
    refine go_istore (L' := [some (pvR 10 0 0), some (pvI x1), some (pvI x2), some (pvI x3), some (pvI x4), some (pvI x5), some (pvI x6), some (pvI v1.2), none]) (pc' := 11) dX10_write_9 rfl (Nat.le_of_ble_eq_true rfl) rfl ?_
    refine go_iload (pc' := 13) dX10_write_11 rfl rfl ?_
    refine go_iconst (pc' := 14) dX10_write_13 rfl (r32_c rfl) ?_
    refine go_ldc (pc' := 16) dX10_write_14 rfl (r32_c rfl) rc_10_166 ?_
    obtain ⟨v4, k5, h⟩ := bd h
    by_cases c6 : v4 = 0
    · rw [if_pos c6] at h
      have k5 := l_C_needRange (d + 6) n e σ x5 0 1000000 _ k5
      rw [c6] at k5
      refine go_call (kc := 24) (Mc := mt24) (v := none) (w' := (true, n, e, σ)) (pc' := 19) (st' := []) [pvI x5, pvI 0, pvI 1000000] [] (Or.inr (Or.inl rfl)) dX10_write_16 rfl rm_10_70 mtE24 rfl rfl rfl (Nat.le_of_ble_eq_true rfl) (Or.inl (by decide)) k5 rfl ?_
      refine go_iload (pc' := 21) dX10_write_19 rfl rfl ?_
      refine go_iconst (pc' := 22) dX10_write_21 rfl (r32_c rfl) ?_
      refine go_iconst (pc' := 23) dX10_write_22 rfl (r32_c rfl) ?_
      obtain ⟨v7, k8, h⟩ := bd h
      by_cases c9 : v7 = 0
      · rw [if_pos c9] at h
        have k8 := l_C_needRange (d + 6) n e σ x6 0 2 _ k8
        rw [c9] at k8
        refine go_call (kc := 24) (Mc := mt24) (v := none) (w' := (true, n, e, σ)) (pc' := 26) (st' := []) [pvI x6, pvI 0, pvI 2] [] (Or.inr (Or.inl rfl)) dX10_write_23 rfl rm_10_70 mtE24 rfl rfl rfl (Nat.le_of_ble_eq_true rfl) (Or.inl (by decide)) k8 rfl ?_
        refine go_aload_n (pc' := 27) dX10_write_26 rfl rfl (Nat.le_of_ble_eq_true rfl) ?_
        refine go_getR (k' := 4) (L0 := 0) (P' := 95) (pc' := 30) dX10_write_27 rfl rf_10_21 rfl rfl (by omega) ?_
        refine go_iload (pc' := 32) dX10_write_30 rfl rfl ?_
        obtain ⟨v10, k11, h⟩ := bd h
        have k11 := l_MS_kindOf (d + 5) n e σ x4 _ k11
        refine go_call (kc := 80) (Mc := mt80) (v := some (pvI v10)) (w' := (true, n, e, σ)) (pc' := 35) (st' := [pvI v10]) [pvR 4 0 95, pvI x4] [] (Or.inl rfl) dX10_write_32 rfl rm_10_210 mtE80 rfl rfl rfl (Nat.le_of_ble_eq_true rfl) (Or.inr ⟨_, _, 95, rfl, Or.inl rfl⟩) k11 rfl ?_
        obtain ⟨j12, k13, h⟩ := bd h
        have k13J : Go none (Ev (d + 7)) mt148 67 [some (pvR 10 0 0), some (pvI x1), some (pvI x2), some (pvI x3), some (pvI x4), some (pvI x5), some (pvI x6), some (pvI v1.2), none] [pvI j12] (true, n, e, σ) (r.1, if r.1 = 0 then some (pvI r.2.1) else none, true, n, e + if r.1 = 0 then 0 else 1, r.2.2) := by
          obtain ⟨v20, k21, h⟩ := bd h
          by_cases c22 : v20 = 0
          · rw [if_pos c22] at h
            have k21 := l_C_need (d + 6) n e σ j12 _ k21
            rw [c22] at k21
            refine go_call (kc := 26) (Mc := mt26) (v := none) (w' := (true, n, e, σ)) (pc' := 70) (st' := []) [pvI j12] [] (Or.inr (Or.inl rfl)) dX10_write_67 rfl rm_10_84 mtE26 rfl rfl rfl (Nat.le_of_ble_eq_true rfl) (Or.inl (by decide)) k21 rfl ?_
            refine go_aload_n (pc' := 71) dX10_write_70 rfl rfl (Nat.le_of_ble_eq_true rfl) ?_
            refine go_getR (k' := 6) (L0 := 0) (P' := 116) (pc' := 74) dX10_write_71 rfl rf_10_51 rfl rfl (by omega) ?_
            refine go_iload (pc' := 76) dX10_write_74 rfl rfl ?_
            refine go_iload (pc' := 78) dX10_write_76 rfl rfl ?_
            obtain ⟨v23, k24, h⟩ := bd h
            have k24 := l_R_gather (d + 3) n e σ v1.2 x4 _ k24
            refine go_call (kc := 113) (Mc := mt113) (v := none) (w' := (true, n, e, v23)) (pc' := 81) (st' := []) [pvR 6 0 116, pvI v1.2, pvI x4] [] (Or.inl rfl) dX10_write_78 rfl rm_10_284 mtE113 rfl rfl rfl (Nat.le_of_ble_eq_true rfl) (Or.inr ⟨_, _, 116, rfl, Or.inl rfl⟩) k24 rfl ?_
            refine go_aload_n (pc' := 82) dX10_write_81 rfl rfl (Nat.le_of_ble_eq_true rfl) ?_
            refine go_getR (k' := 6) (L0 := 0) (P' := 116) (pc' := 85) dX10_write_82 rfl rf_10_51 rfl rfl (by omega) ?_
            refine go_getI (pc' := 88) dX10_write_85 rfl rf_10_287 rfl ?_
            refine go_if_ne (t := 146) (pc' := 91) dX10_write_88 rfl rfl (fun c70 => ?_) (fun c70 => ?_)
            · rw [if_pos (show (v23 116 9) ≠ 0 from c70)] at h
              refine go_aload_n (pc' := 147) dX10_write_146 rfl rfl (Nat.le_of_ble_eq_true rfl) ?_
              refine go_getR (k' := 6) (L0 := 0) (P' := 116) (pc' := 150) dX10_write_147 rfl rf_10_51 rfl rfl (by omega) ?_
              obtain ⟨v25, k26, h⟩ := bd h
              have k26 := l_R_allWeighOne (d + 6) n e v23 _ k26
              refine go_call (kc := 149) (Mc := mt149) (v := some (pvI v25)) (w' := (true, n, e, v23)) (pc' := 153) (st' := [pvI v25]) [pvR 6 0 116] [] (Or.inl rfl) dX10_write_150 rfl rm_10_290 mtE149 rfl rfl rfl (Nat.le_of_ble_eq_true rfl) (Or.inr ⟨_, _, 116, rfl, Or.inl rfl⟩) k26 rfl ?_
              obtain ⟨v27, k28, h⟩ := bd h
              by_cases c29 : v27 = 0
              · rw [if_pos c29] at h
                have k28 := l_C_need (d + 6) n e v23 v25 _ k28
                rw [c29] at k28
                refine go_call (kc := 26) (Mc := mt26) (v := none) (w' := (true, n, e, v23)) (pc' := 156) (st' := []) [pvI v25] [] (Or.inr (Or.inl rfl)) dX10_write_153 rfl rm_10_84 mtE26 rfl rfl rfl (Nat.le_of_ble_eq_true rfl) (Or.inl (by decide)) k28 rfl ?_
                refine go_aload_n (pc' := 157) dX10_write_156 rfl rfl (Nat.le_of_ble_eq_true rfl) ?_
                refine go_getR (k' := 8) (L0 := 0) (P' := 112) (pc' := 160) dX10_write_157 rfl rf_10_42 rfl rfl (by omega) ?_
                refine go_aload_n (pc' := 161) dX10_write_160 rfl rfl (Nat.le_of_ble_eq_true rfl) ?_
                refine go_getR (k' := 6) (L0 := 0) (P' := 116) (pc' := 164) dX10_write_161 rfl rf_10_51 rfl rfl (by omega) ?_
                refine go_getI (pc' := 167) dX10_write_164 rfl rf_10_287 rfl ?_
                refine go_iload (pc' := 169) dX10_write_167 rfl rfl ?_
                refine go_i2l (pc' := 170) dX10_write_169 rfl ?_
                obtain ⟨v30, k31, h⟩ := bd h
                have k31 := l_SP_start (d + 6) n e v23 (v23 116 9) x5 _ k31
                refine go_call (kc := 150) (Mc := mt150) (v := none) (w' := (true, n, e, v30)) (pc' := 173) (st' := []) [pvR 8 0 112, pvI (v23 116 9), pvL x5] [] (Or.inl rfl) dX10_write_170 rfl rm_10_294 mtE150 rfl rfl rfl (Nat.le_of_ble_eq_true rfl) (Or.inr ⟨_, _, 112, rfl, Or.inl rfl⟩) k31 rfl ?_
                refine go_iconst (pc' := 174) dX10_write_173 rfl (r32_c rfl) ?_
                refine go_istore (L' := [some (pvR 10 0 0), some (pvI x1), some (pvI x2), some (pvI x3), some (pvI x4), some (pvI x5), some (pvI x6), some (pvI v1.2), some (pvI 0)]) (pc' := 176) dX10_write_174 rfl (Nat.le_of_ble_eq_true rfl) rfl ?_
                obtain ⟨j43, k44, h⟩ := bd h
                refine l_C_write_176 d n e x1 x2 x3 x4 x5 x6 v1 zFuel 0 v30 _ k44 ?_
                refine go_aload_n (pc' := 221) dX10_write_220 rfl rfl (Nat.le_of_ble_eq_true rfl) ?_
                refine go_getR (k' := 8) (L0 := 0) (P' := 112) (pc' := 224) dX10_write_221 rfl rf_10_42 rfl rfl (by omega) ?_
                refine go_iload (pc' := 226) dX10_write_224 rfl rfl ?_
                obtain ⟨v45, k46, h⟩ := bd h
                have k46 := l_SP_share (d + 4) n e j43.2 x6 _ k46
                refine go_call (kc := 153) (Mc := mt153) (v := none) (w' := (true, n, e, v45)) (pc' := 229) (st' := []) [pvR 8 0 112, pvI x6] [] (Or.inl rfl) dX10_write_226 rfl rm_10_304 mtE153 rfl rfl rfl (Nat.le_of_ble_eq_true rfl) (Or.inr ⟨_, _, 112, rfl, Or.inl rfl⟩) k46 rfl ?_
                refine go_aload_n (pc' := 230) dX10_write_229 rfl rfl (Nat.le_of_ble_eq_true rfl) ?_
                refine go_getR (k' := 8) (L0 := 0) (P' := 112) (pc' := 233) dX10_write_230 rfl rf_10_42 rfl rfl (by omega) ?_
                obtain ⟨v47, k48, h⟩ := bd h
                have k48 := l_SP_inRange (d + 6) n e v45 _ k48
                refine go_call (kc := 158) (Mc := mt158) (v := some (pvI v47)) (w' := (true, n, e, v45)) (pc' := 236) (st' := [pvI v47]) [pvR 8 0 112] [] (Or.inl rfl) dX10_write_233 rfl rm_10_307 mtE158 rfl rfl rfl (Nat.le_of_ble_eq_true rfl) (Or.inr ⟨_, _, 112, rfl, Or.inl rfl⟩) k48 rfl ?_
                obtain ⟨v49, k50, h⟩ := bd h
                by_cases c51 : v49 = 0
                · rw [if_pos c51] at h
                  have k50 := l_C_need (d + 6) n e v45 v47 _ k50
                  rw [c51] at k50
                  refine go_call (kc := 26) (Mc := mt26) (v := none) (w' := (true, n, e, v45)) (pc' := 239) (st' := []) [pvI v47] [] (Or.inr (Or.inl rfl)) dX10_write_236 rfl rm_10_84 mtE26 rfl rfl rfl (Nat.le_of_ble_eq_true rfl) (Or.inl (by decide)) k50 rfl ?_
                  refine go_aload_n (pc' := 240) dX10_write_239 rfl rfl (Nat.le_of_ble_eq_true rfl) ?_
                  obtain ⟨v52, k53, h⟩ := bd h
                  have k53 := l_C_writeShares (d + 0) n e v45 _ k53
                  refine go_call (kc := 159) (Mc := mt159) (v := some (pvI v52.1)) (w' := (true, n, e, v52.2)) (pc' := 243) (st' := [pvI v52.1]) [pvR 10 0 0] [] (Or.inl rfl) dX10_write_240 rfl rm_10_310 mtE159 rfl rfl rfl (Nat.le_of_ble_eq_true rfl) (Or.inr ⟨_, _, 0, rfl, Or.inl rfl⟩) k53 rfl ?_
                  cases h
                  exact go_iret dX10_write_243 rfl rfl
                · rw [if_neg c51] at h
                  obtain ⟨g54, h⟩ := gd h
                  cases h
                  have k50 := l_C_need (d + 6) n e v45 v47 _ k50
                  simp only [if_neg c51] at k50 ⊢
                  exact go_callX (kc := 26) (Mc := mt26) [pvI v47] [] (Or.inr rfl) dX10_write_236 rm_10_84 mtE26 rfl rfl rfl (Nat.le_of_ble_eq_true rfl) (Or.inl (by decide)) rfl c51 g54 k50 rfl
              · rw [if_neg c29] at h
                obtain ⟨g55, h⟩ := gd h
                cases h
                have k28 := l_C_need (d + 6) n e v23 v25 _ k28
                simp only [if_neg c29] at k28 ⊢
                exact go_callX (kc := 26) (Mc := mt26) [pvI v25] [] (Or.inr rfl) dX10_write_153 rm_10_84 mtE26 rfl rfl rfl (Nat.le_of_ble_eq_true rfl) (Or.inl (by decide)) rfl c29 g55 k28 rfl
            · rw [if_neg (show ¬ ((v23 116 9) ≠ 0) from c70)] at h
              refine go_aload_n (pc' := 92) dX10_write_91 rfl rfl (Nat.le_of_ble_eq_true rfl) ?_
              refine go_getR (k' := 7) (L0 := 0) (P' := 1) (pc' := 95) dX10_write_92 rfl rf_10_12 rfl rfl (by omega) ?_
              refine go_iload (pc' := 97) dX10_write_95 rfl rfl ?_
              obtain ⟨v56, k57, h⟩ := bd h
              have k57 := l_S_isPlain (d + 4) n e v23 v1.2 _ k57
              refine go_call (kc := 78) (Mc := mt78) (v := some (pvI v56)) (w' := (true, n, e, v23)) (pc' := 100) (st' := [pvI v56]) [pvR 7 0 1, pvI v1.2] [] (Or.inl rfl) dX10_write_97 rfl rm_10_209 mtE78 rfl rfl rfl (Nat.le_of_ble_eq_true rfl) (Or.inr ⟨_, _, 1, rfl, Or.inl rfl⟩) k57 rfl ?_
              obtain ⟨j58, k59, h⟩ := bd h
              have k59J : Go none (Ev (d + 7)) mt148 120 [some (pvR 10 0 0), some (pvI x1), some (pvI x2), some (pvI x3), some (pvI x4), some (pvI x5), some (pvI x6), some (pvI v1.2), none] [pvI j58] (true, n, e, v23) (r.1, if r.1 = 0 then some (pvI r.2.1) else none, true, n, e + if r.1 = 0 then 0 else 1, r.2.2) := by
                obtain ⟨v61, k62, h⟩ := bd h
                by_cases c63 : v61 = 0
                · rw [if_pos c63] at h
                  have k62 := l_C_need (d + 6) n e v23 j58 _ k62
                  rw [c63] at k62
                  refine go_call (kc := 26) (Mc := mt26) (v := none) (w' := (true, n, e, v23)) (pc' := 123) (st' := []) [pvI j58] [] (Or.inr (Or.inl rfl)) dX10_write_120 rfl rm_10_84 mtE26 rfl rfl rfl (Nat.le_of_ble_eq_true rfl) (Or.inl (by decide)) k62 rfl ?_
                  refine go_aload_n (pc' := 124) dX10_write_123 rfl rfl (Nat.le_of_ble_eq_true rfl) ?_
                  refine go_getR (k' := 1) (L0 := 0) (P' := 101) (pc' := 127) dX10_write_124 rfl rf_10_28 rfl rfl (by omega) ?_
                  refine go_iload (pc' := 129) dX10_write_127 rfl rfl ?_
                  refine go_iload (pc' := 131) dX10_write_129 rfl rfl ?_
                  refine go_iload (pc' := 133) dX10_write_131 rfl rfl ?_
                  obtain ⟨v64, k65, h⟩ := bd h
                  have k65 := l_FR_add (d + 6) n e v23 v1.2 x4 x5 _ k65
                  refine go_call (kc := 82) (Mc := mt82) (v := none) (w' := (true, n, e, v64)) (pc' := 136) (st' := []) [pvR 1 0 101, pvI v1.2, pvI x4, pvI x5] [] (Or.inl rfl) dX10_write_133 rfl rm_10_215 mtE82 rfl rfl rfl (Nat.le_of_ble_eq_true rfl) (Or.inr ⟨_, _, 101, rfl, Or.inl rfl⟩) k65 rfl ?_
                  refine go_aload_n (pc' := 137) dX10_write_136 rfl rfl (Nat.le_of_ble_eq_true rfl) ?_
                  refine go_iload (pc' := 139) dX10_write_137 rfl rfl ?_
                  refine go_iload (pc' := 141) dX10_write_139 rfl rfl ?_
                  obtain ⟨v66, k67, h⟩ := bd h
                  have k67 := l_C_dropFor (d + 2) n e v64 v1.2 x4 _ k67
                  refine go_call (kc := 83) (Mc := mt83) (v := none) (w' := (true, n, e, v66)) (pc' := 144) (st' := []) [pvR 10 0 0, pvI v1.2, pvI x4] [] (Or.inl rfl) dX10_write_141 rfl rm_10_217 mtE83 rfl rfl rfl (Nat.le_of_ble_eq_true rfl) (Or.inr ⟨_, _, 0, rfl, Or.inl rfl⟩) k67 rfl ?_
                  refine go_iconst (pc' := 145) dX10_write_144 rfl (r32_c rfl) ?_
                  cases h
                  exact go_iret dX10_write_145 rfl rfl
                · rw [if_neg c63] at h
                  obtain ⟨g68, h⟩ := gd h
                  cases h
                  have k62 := l_C_need (d + 6) n e v23 j58 _ k62
                  simp only [if_neg c63] at k62 ⊢
                  exact go_callX (kc := 26) (Mc := mt26) [pvI j58] [] (Or.inr rfl) dX10_write_120 rm_10_84 mtE26 rfl rfl rfl (Nat.le_of_ble_eq_true rfl) (Or.inl (by decide)) rfl c63 g68 k62 rfl
              clear h
              have h := k59
              refine go_if_eq (t := 119) (pc' := 103) dX10_write_100 rfl rfl (fun c69 => ?_) (fun c69 => ?_)
              · rw [if_pos (show v56 = 0 from c69)] at h
                refine go_iconst (pc' := 120) dX10_write_119 rfl (r32_c rfl) ?_
                cases h
                exact k59J
              · rw [if_neg (show ¬ (v56 = 0) from c69)] at h
                refine go_aload_n (pc' := 104) dX10_write_103 rfl rfl (Nat.le_of_ble_eq_true rfl) ?_
                refine go_getR (k' := 1) (L0 := 0) (P' := 101) (pc' := 107) dX10_write_104 rfl rf_10_28 rfl rfl (by omega) ?_
                refine go_getI (pc' := 110) dX10_write_107 rfl rf_10_214 rfl ?_
                refine go_bipush (pc' := 112) dX10_write_110 rfl (r32_c rfl) (by decide) ?_
                refine go_icmp_ge (t := 119) (pc' := 115) dX10_write_112 rfl rfl (fun c60 => ?_) (fun c60 => ?_)
                · rw [if_pos (show 50 ≤ (v23 101 0) from c60)] at h
                  refine go_iconst (pc' := 120) dX10_write_119 rfl (r32_c rfl) ?_
                  cases h
                  exact k59J
                · rw [if_neg (show ¬ (50 ≤ (v23 101 0)) from c60)] at h
                  refine go_iconst (pc' := 116) dX10_write_115 rfl (r32_c rfl) ?_
                  refine go_goto (t := 120) dX10_write_116 rfl ?_
                  cases h
                  exact k59J
          · rw [if_neg c22] at h
            obtain ⟨g71, h⟩ := gd h
            cases h
            have k21 := l_C_need (d + 6) n e σ j12 _ k21
            simp only [if_neg c22] at k21 ⊢
            exact go_callX (kc := 26) (Mc := mt26) [pvI j12] [] (Or.inr rfl) dX10_write_67 rm_10_84 mtE26 rfl rfl rfl (Nat.le_of_ble_eq_true rfl) (Or.inl (by decide)) rfl c22 g71 k21 rfl
        clear h
        have h := k13
        refine go_if_ne (t := 66) (pc' := 38) dX10_write_35 rfl rfl (fun c72 => ?_) (fun c72 => ?_)
        · rw [if_pos (show v10 ≠ 0 from c72)] at h
          refine go_iconst (pc' := 67) dX10_write_66 rfl (r32_c rfl) ?_
          cases h
          exact k13J
        · rw [if_neg (show ¬ (v10 ≠ 0) from c72)] at h
          refine go_aload_n (pc' := 39) dX10_write_38 rfl rfl (Nat.le_of_ble_eq_true rfl) ?_
          refine go_getR (k' := 7) (L0 := 0) (P' := 1) (pc' := 42) dX10_write_39 rfl rf_10_12 rfl rfl (by omega) ?_
          refine go_iload (pc' := 44) dX10_write_42 rfl rfl ?_
          obtain ⟨v14, k15, h⟩ := bd h
          have k15 := l_S_isSeen (d + 5) n e σ v1.2 _ k15
          refine go_call (kc := 92) (Mc := mt92) (v := some (pvI v14)) (w' := (true, n, e, σ)) (pc' := 47) (st' := [pvI v14]) [pvR 7 0 1, pvI v1.2] [] (Or.inl rfl) dX10_write_44 rfl rm_10_231 mtE92 rfl rfl rfl (Nat.le_of_ble_eq_true rfl) (Or.inr ⟨_, _, 1, rfl, Or.inl rfl⟩) k15 rfl ?_
          refine go_if_eq (t := 66) (pc' := 50) dX10_write_47 rfl rfl (fun c19 => ?_) (fun c19 => ?_)
          · rw [if_pos (show v14 = 0 from c19)] at h
            refine go_iconst (pc' := 67) dX10_write_66 rfl (r32_c rfl) ?_
            cases h
            exact k13J
          · rw [if_neg (show ¬ (v14 = 0) from c19)] at h
            refine go_aload_n (pc' := 51) dX10_write_50 rfl rfl (Nat.le_of_ble_eq_true rfl) ?_
            refine go_getR (k' := 7) (L0 := 0) (P' := 1) (pc' := 54) dX10_write_51 rfl rf_10_12 rfl rfl (by omega) ?_
            refine go_iload (pc' := 56) dX10_write_54 rfl rfl ?_
            obtain ⟨v16, k17, h⟩ := bd h
            have k17 := l_S_isCalculated (d + 3) n e σ v1.2 _ k17
            refine go_call (kc := 88) (Mc := mt88) (v := some (pvI v16)) (w' := (true, n, e, σ)) (pc' := 59) (st' := [pvI v16]) [pvR 7 0 1, pvI v1.2] [] (Or.inl rfl) dX10_write_56 rfl rm_10_281 mtE88 rfl rfl rfl (Nat.le_of_ble_eq_true rfl) (Or.inr ⟨_, _, 1, rfl, Or.inl rfl⟩) k17 rfl ?_
            refine go_if_ne (t := 66) (pc' := 62) dX10_write_59 rfl rfl (fun c18 => ?_) (fun c18 => ?_)
            · rw [if_pos (show v16 ≠ 0 from c18)] at h
              refine go_iconst (pc' := 67) dX10_write_66 rfl (r32_c rfl) ?_
              cases h
              exact k13J
            · rw [if_neg (show ¬ (v16 ≠ 0) from c18)] at h
              refine go_iconst (pc' := 63) dX10_write_62 rfl (r32_c rfl) ?_
              refine go_goto (t := 67) dX10_write_63 rfl ?_
              cases h
              exact k13J
      · rw [if_neg c9] at h
        obtain ⟨g73, h⟩ := gd h
        cases h
        have k8 := l_C_needRange (d + 6) n e σ x6 0 2 _ k8
        simp only [if_neg c9] at k8 ⊢
        exact go_callX (kc := 24) (Mc := mt24) [pvI x6, pvI 0, pvI 2] [] (Or.inr rfl) dX10_write_23 rm_10_70 mtE24 rfl rfl rfl (Nat.le_of_ble_eq_true rfl) (Or.inl (by decide)) rfl c9 g73 k8 rfl
    · rw [if_neg c6] at h
      obtain ⟨g74, h⟩ := gd h
      cases h
      have k5 := l_C_needRange (d + 6) n e σ x5 0 1000000 _ k5
      simp only [if_neg c6] at k5 ⊢
      exact go_callX (kc := 24) (Mc := mt24) [pvI x5, pvI 0, pvI 1000000] [] (Or.inr rfl) dX10_write_16 rm_10_70 mtE24 rfl rfl rfl (Nat.le_of_ble_eq_true rfl) (Or.inl (by decide)) rfl c6 g74 k5 rfl
  · rw [if_neg c3] at h
    obtain ⟨g75, h⟩ := gd h
    cases h
    have k2 := l_C_existingCell (d + 4) n e σ x1 x2 x3 x4 _ k2
    simp only [if_neg c3] at k2 ⊢
    exact go_callX (kc := 77) (Mc := mt77) [pvR 10 0 0, pvI x1, pvI x2, pvI x3, pvI x4] [] (Or.inl rfl) dX10_write_6 rm_10_205 mtE77 rfl rfl rfl (Nat.le_of_ble_eq_true rfl) (Or.inr ⟨_, _, 0, rfl, Or.inl rfl⟩) rfl c3 g75 k2 rfl

set_option maxRecDepth 10000 in
theorem l_L_write (d : Nat) (n e : Nat) (σ : Hp) (x2 : Int) (x3 : Int) (x4 : Int) (x5 : Int) (x6 : Int) (x7 : Int) (r : Int × Nat × Hp) (h : f_L_write σ e x2 x3 x4 x5 x6 x7 = some r) : Ev (d + 9) 147 [pvR 10 0 0, pvI x2, pvI x3, pvI x4, pvI x5, pvI x6, pvI x7, pvR 13 1 170] (true, n, e, σ) (0, some (pvI r.1), true, n, r.2.1, r.2.2) := by
  unfold f_L_write at h
  refine Ev.of mtE147 rfl rfl rfl rfl ?_
  show Go none (Ev (d + 8)) mt147 0 [some (pvR 10 0 0), some (pvI x2), some (pvI x3), some (pvI x4), some (pvI x5), some (pvI x6), some (pvI x7), some (pvR 13 1 170), none] [] (true, n, e, σ) (0, some (pvI r.1), true, n, r.2.1, r.2.2)
  refine go_aload (pc' := 2) dL_write_0 rfl rfl (Nat.le_of_ble_eq_true rfl) ?_
  refine go_iconst (pc' := 3) dL_write_2 rfl (r32_c rfl) ?_
  refine go_aload_n (pc' := 4) dL_write_3 rfl rfl (Nat.le_of_ble_eq_true rfl) ?_
  refine go_iload_n (pc' := 5) dL_write_4 rfl rfl ?_
  refine go_iload_n (pc' := 6) dL_write_5 rfl rfl ?_
  refine go_iload_n (pc' := 7) dL_write_6 rfl rfl ?_
  refine go_iload (pc' := 9) dL_write_7 rfl rfl ?_
  refine go_iload (pc' := 11) dL_write_9 rfl rfl ?_
  refine go_iload (pc' := 13) dL_write_11 rfl rfl ?_
  obtain ⟨v1, k2, h⟩ := bd h
  by_cases c3 : v1.1 = 0
  · rw [if_pos c3] at h
    have k2 := l_C_write (d + 0) n e σ x2 x3 x4 x5 x6 x7 _ k2
    rw [c3] at k2
    refine go_call (kc := 148) (Mc := mt148) (v := some (pvI v1.2.1)) (w' := (true, n, e, v1.2.2)) (pc' := 16) (st' := [pvI v1.2.1, pvI 0, pvR 13 1 170]) [pvR 10 0 0, pvI x2, pvI x3, pvI x4, pvI x5, pvI x6, pvI x7] [pvI 0, pvR 13 1 170] (Or.inl rfl) dL_write_13 rfl rm_12_72 mtE148 rfl rfl rfl (Nat.le_of_ble_eq_true rfl) (Or.inr ⟨_, _, 0, rfl, Or.inl rfl⟩) k2 rfl ?_
    refine go_i2l (pc' := 17) dL_write_16 rfl ?_
    obtain ⟨g4, h⟩ := gd h
    refine go_last (pc' := 18) dL_write_17 rfl g4 ?_
    refine go_goto (t := 33) dL_write_18 rfl ?_
    refine go_iconst (pc' := 34) dL_write_33 rfl (r32_c rfl) ?_
    cases h
    exact go_iret dL_write_34 rfl rfl
  · rw [if_neg c3] at h
    by_cases c5 : v1.1 = 1
    · rw [if_pos c5] at h
      have k2 := l_C_write (d + 0) n e σ x2 x3 x4 x5 x6 x7 _ k2
      rw [c5] at k2
      refine go_callH (x := 1) (kc := 148) (Mc := mt148) (h := 21) (i := 8) (ln := 2) (w' := (true, n, (e + 1), v1.2.2)) (pc' := 23) (L' := [some (pvR 10 0 0), some (pvI x2), some (pvI x3), some (pvI x4), some (pvI x5), some (pvI x6), some (pvI x7), some (pvR 13 1 170), none]) [pvR 10 0 0, pvI x2, pvI x3, pvI x4, pvI x5, pvI x6, pvI x7] [pvI 0, pvR 13 1 170] (Or.inl rfl) dL_write_13 rm_12_72 mtE148 rfl rfl rfl (Nat.le_of_ble_eq_true rfl) (Or.inr ⟨_, _, 0, rfl, Or.inl rfl⟩) (by decide +kernel) (by decide) (by decide) (Or.inl ⟨dL_write_21, rfl⟩) (Nat.le_of_ble_eq_true rfl) rfl rfl k2 ?_
      refine go_iconst (pc' := 24) dL_write_23 rfl (r32_c rfl) ?_
      cases h
      exact go_iret dL_write_24 rfl rfl
    · rw [if_neg c5] at h
      by_cases c6 : v1.1 = 2
      · rw [if_pos c6] at h
        have k2 := l_C_write (d + 0) n e σ x2 x3 x4 x5 x6 x7 _ k2
        rw [c6] at k2
        refine go_callH (x := 2) (kc := 148) (Mc := mt148) (h := 25) (i := 8) (ln := 2) (w' := (true, n, (e + 1), v1.2.2)) (pc' := 27) (L' := [some (pvR 10 0 0), some (pvI x2), some (pvI x3), some (pvI x4), some (pvI x5), some (pvI x6), some (pvI x7), some (pvR 13 1 170), none]) [pvR 10 0 0, pvI x2, pvI x3, pvI x4, pvI x5, pvI x6, pvI x7] [pvI 0, pvR 13 1 170] (Or.inl rfl) dL_write_13 rm_12_72 mtE148 rfl rfl rfl (Nat.le_of_ble_eq_true rfl) (Or.inr ⟨_, _, 0, rfl, Or.inl rfl⟩) (by decide +kernel) (by decide) (by decide) (Or.inl ⟨dL_write_25, rfl⟩) (Nat.le_of_ble_eq_true rfl) rfl rfl k2 ?_
        refine go_iconst (pc' := 28) dL_write_27 rfl (r32_c rfl) ?_
        cases h
        exact go_iret dL_write_28 rfl rfl
      · rw [if_neg c6] at h
        by_cases c7 : v1.1 = 3
        · rw [if_pos c7] at h
          have k2 := l_C_write (d + 0) n e σ x2 x3 x4 x5 x6 x7 _ k2
          rw [c7] at k2
          refine go_callH (x := 3) (kc := 148) (Mc := mt148) (h := 29) (i := 8) (ln := 2) (w' := (true, n, (e + 1), v1.2.2)) (pc' := 31) (L' := [some (pvR 10 0 0), some (pvI x2), some (pvI x3), some (pvI x4), some (pvI x5), some (pvI x6), some (pvI x7), some (pvR 13 1 170), none]) [pvR 10 0 0, pvI x2, pvI x3, pvI x4, pvI x5, pvI x6, pvI x7] [pvI 0, pvR 13 1 170] (Or.inl rfl) dL_write_13 rm_12_72 mtE148 rfl rfl rfl (Nat.le_of_ble_eq_true rfl) (Or.inr ⟨_, _, 0, rfl, Or.inl rfl⟩) (by decide +kernel) (by decide) (by decide) (Or.inl ⟨dL_write_29, rfl⟩) (Nat.le_of_ble_eq_true rfl) rfl rfl k2 ?_
          refine go_iconst (pc' := 32) dL_write_31 rfl (r32_c rfl) ?_
          cases h
          exact go_iret dL_write_32 rfl rfl
        · rw [if_neg c7] at h
          cases h

set_option maxRecDepth 10000 in
theorem l_FR_save (d : Nat) (n e : Nat) (σ : Hp) (r : Hp) (h : f_FR_save σ = some r) : Ev (d + 1) 163 [pvR 1 0 101] (true, n, e, σ) (0, none, true, n, e, r) := by
  unfold f_FR_save at h
  refine Ev.of mtE163 rfl rfl rfl rfl ?_
  show Go none (Ev (d + 0)) mt163 0 [some (pvR 1 0 101)] [] (true, n, e, σ) (0, none, true, n, e, r)
  refine go_aload_n (pc' := 1) dX1_save_0 rfl rfl (Nat.le_of_ble_eq_true rfl) ?_
  refine go_iconst (pc' := 2) dX1_save_1 rfl (r32_c rfl) ?_
  obtain ⟨g1, h⟩ := gd h
  refine go_putZ (pc' := 5) dX1_save_2 rfl rf_1_38 rfl g1 ?_
  refine go_aload_n (pc' := 6) dX1_save_5 rfl rfl (Nat.le_of_ble_eq_true rfl) ?_
  refine go_aload_n (pc' := 7) dX1_save_6 rfl rfl (Nat.le_of_ble_eq_true rfl) ?_
  refine go_getI (pc' := 10) dX1_save_7 rfl rf_1_30 rfl ?_
  refine go_putI (pc' := 13) dX1_save_10 rfl rf_1_42 rfl ?_
  refine go_aload_n (pc' := 14) dX1_save_13 rfl rfl (Nat.le_of_ble_eq_true rfl) ?_
  refine go_getR (k' := 12) (L0 := 50) (P' := 102) (pc' := 17) dX1_save_14 rfl rf_1_9 rfl rfl (by omega) ?_
  refine go_iconst (pc' := 18) dX1_save_17 rfl (r32_c rfl) ?_
  refine go_aload_n (pc' := 19) dX1_save_18 rfl rfl (Nat.le_of_ble_eq_true rfl) ?_
  refine go_getR (k' := 12) (L0 := 50) (P' := 105) (pc' := 22) dX1_save_19 rfl rf_1_21 rfl rfl (by omega) ?_
  refine go_iconst (pc' := 23) dX1_save_22 rfl (r32_c rfl) ?_
  refine go_bipush (pc' := 25) dX1_save_23 rfl (r32_c rfl) (by decide) ?_
  obtain ⟨g2, h⟩ := gd h
  refine go_copy (pc' := 28) dX1_save_25 rfl rm_1_45 (Nat.le_of_ble_eq_true rfl) g2 ?_
  refine go_aload_n (pc' := 29) dX1_save_28 rfl rfl (Nat.le_of_ble_eq_true rfl) ?_
  refine go_getR (k' := 12) (L0 := 50) (P' := 103) (pc' := 32) dX1_save_29 rfl rf_1_15 rfl rfl (by omega) ?_
  refine go_iconst (pc' := 33) dX1_save_32 rfl (r32_c rfl) ?_
  refine go_aload_n (pc' := 34) dX1_save_33 rfl rfl (Nat.le_of_ble_eq_true rfl) ?_
  refine go_getR (k' := 12) (L0 := 50) (P' := 106) (pc' := 37) dX1_save_34 rfl rf_1_24 rfl rfl (by omega) ?_
  refine go_iconst (pc' := 38) dX1_save_37 rfl (r32_c rfl) ?_
  refine go_bipush (pc' := 40) dX1_save_38 rfl (r32_c rfl) (by decide) ?_
  obtain ⟨g3, h⟩ := gd h
  refine go_copy (pc' := 43) dX1_save_40 rfl rm_1_45 (Nat.le_of_ble_eq_true rfl) g3 ?_
  refine go_aload_n (pc' := 44) dX1_save_43 rfl rfl (Nat.le_of_ble_eq_true rfl) ?_
  refine go_getR (k' := 12) (L0 := 50) (P' := 104) (pc' := 47) dX1_save_44 rfl rf_1_18 rfl rfl (by omega) ?_
  refine go_iconst (pc' := 48) dX1_save_47 rfl (r32_c rfl) ?_
  refine go_aload_n (pc' := 49) dX1_save_48 rfl rfl (Nat.le_of_ble_eq_true rfl) ?_
  refine go_getR (k' := 12) (L0 := 50) (P' := 107) (pc' := 52) dX1_save_49 rfl rf_1_27 rfl rfl (by omega) ?_
  refine go_iconst (pc' := 53) dX1_save_52 rfl (r32_c rfl) ?_
  refine go_bipush (pc' := 55) dX1_save_53 rfl (r32_c rfl) (by decide) ?_
  obtain ⟨g4, h⟩ := gd h
  refine go_copy (pc' := 58) dX1_save_55 rfl rm_1_45 (Nat.le_of_ble_eq_true rfl) g4 ?_
  cases h
  exact go_vret dX1_save_58 rfl rfl

set_option maxRecDepth 10000 in
theorem l_C_begin (d : Nat) (n e : Nat) (σ : Hp) (r : Nat × Hp) (h : f_C_begin σ = some r) : Ev (d + 2) 162 [pvR 10 0 0] (true, n, e, σ) (r.1, none, true, n, e + if r.1 = 0 then 0 else 1, r.2) := by
  unfold f_C_begin at h
  refine Ev.of mtE162 rfl rfl rfl rfl ?_
  show Go none (Ev (d + 1)) mt162 0 [some (pvR 10 0 0)] [] (true, n, e, σ) (r.1, none, true, n, e + if r.1 = 0 then 0 else 1, r.2)
  refine go_aload_n (pc' := 1) dX10_begin_0 rfl rfl (Nat.le_of_ble_eq_true rfl) ?_
  refine go_getR (k' := 1) (L0 := 0) (P' := 101) (pc' := 4) dX10_begin_1 rfl rf_10_28 rfl rfl (by omega) ?_
  refine go_getZ (pc' := 7) dX10_begin_4 rfl rf_10_313 rfl ?_
  obtain ⟨j1, k2, h⟩ := bd h
  have k2J : Go none (Ev (d + 1)) mt162 15 [some (pvR 10 0 0)] [pvI j1] (true, n, e, σ) (r.1, none, true, n, e + if r.1 = 0 then 0 else 1, r.2) := by
    obtain ⟨v3, k4, h⟩ := bd h
    by_cases c5 : v3 = 0
    · rw [if_pos c5] at h
      have k4 := l_C_need (d + 0) n e σ j1 _ k4
      rw [c5] at k4
      refine go_call (kc := 26) (Mc := mt26) (v := none) (w' := (true, n, e, σ)) (pc' := 18) (st' := []) [pvI j1] [] (Or.inr (Or.inl rfl)) dX10_begin_15 rfl rm_10_84 mtE26 rfl rfl rfl (Nat.le_of_ble_eq_true rfl) (Or.inl (by decide)) k4 rfl ?_
      refine go_aload_n (pc' := 19) dX10_begin_18 rfl rfl (Nat.le_of_ble_eq_true rfl) ?_
      refine go_getR (k' := 1) (L0 := 0) (P' := 101) (pc' := 22) dX10_begin_19 rfl rf_10_28 rfl rfl (by omega) ?_
      obtain ⟨v6, k7, h⟩ := bd h
      have k7 := l_FR_save (d + 0) n e σ _ k7
      refine go_call (kc := 163) (Mc := mt163) (v := none) (w' := (true, n, e, v6)) (pc' := 25) (st' := []) [pvR 1 0 101] [] (Or.inl rfl) dX10_begin_22 rfl rm_10_316 mtE163 rfl rfl rfl (Nat.le_of_ble_eq_true rfl) (Or.inr ⟨_, _, 101, rfl, Or.inl rfl⟩) k7 rfl ?_
      cases h
      exact go_vret dX10_begin_25 rfl rfl
    · rw [if_neg c5] at h
      obtain ⟨g8, h⟩ := gd h
      cases h
      have k4 := l_C_need (d + 0) n e σ j1 _ k4
      simp only [if_neg c5] at k4 ⊢
      exact go_callX (kc := 26) (Mc := mt26) [pvI j1] [] (Or.inr rfl) dX10_begin_15 rm_10_84 mtE26 rfl rfl rfl (Nat.le_of_ble_eq_true rfl) (Or.inl (by decide)) rfl c5 g8 k4 rfl
  clear h
  have h := k2
  refine go_if_ne (t := 14) (pc' := 10) dX10_begin_7 rfl rfl (fun c9 => ?_) (fun c9 => ?_)
  · rw [if_pos (show (σ 101 2) ≠ 0 from c9)] at h
    refine go_iconst (pc' := 15) dX10_begin_14 rfl (r32_c rfl) ?_
    cases h
    exact k2J
  · rw [if_neg (show ¬ ((σ 101 2) ≠ 0) from c9)] at h
    refine go_iconst (pc' := 11) dX10_begin_10 rfl (r32_c rfl) ?_
    refine go_goto (t := 15) dX10_begin_11 rfl ?_
    cases h
    exact k2J

set_option maxRecDepth 10000 in
theorem l_L_begin (d : Nat) (n e : Nat) (σ : Hp) (r : Int × Nat × Hp) (h : f_L_begin σ e = some r) : Ev (d + 3) 161 [pvR 10 0 0] (true, n, e, σ) (0, some (pvI r.1), true, n, r.2.1, r.2.2) := by
  unfold f_L_begin at h
  refine Ev.of mtE161 rfl rfl rfl rfl ?_
  show Go none (Ev (d + 2)) mt161 0 [some (pvR 10 0 0), none] [] (true, n, e, σ) (0, some (pvI r.1), true, n, r.2.1, r.2.2)
  refine go_aload_n (pc' := 1) dL_begin_0 rfl rfl (Nat.le_of_ble_eq_true rfl) ?_
  obtain ⟨v1, k2, h⟩ := bd h
  by_cases c3 : v1.1 = 0
  · rw [if_pos c3] at h
    have k2 := l_C_begin (d + 0) n e σ _ k2
    rw [c3] at k2
    refine go_call (kc := 162) (Mc := mt162) (v := none) (w' := (true, n, e, v1.2)) (pc' := 4) (st' := []) [pvR 10 0 0] [] (Or.inl rfl) dL_begin_1 rfl rm_12_76 mtE162 rfl rfl rfl (Nat.le_of_ble_eq_true rfl) (Or.inr ⟨_, _, 0, rfl, Or.inl rfl⟩) k2 rfl ?_
    refine go_goto (t := 10) dL_begin_4 rfl ?_
    refine go_iconst (pc' := 11) dL_begin_10 rfl (r32_c rfl) ?_
    cases h
    exact go_iret dL_begin_11 rfl rfl
  · rw [if_neg c3] at h
    by_cases c4 : v1.1 = 3
    · rw [if_pos c4] at h
      have k2 := l_C_begin (d + 0) n e σ _ k2
      rw [c4] at k2
      refine go_callH (x := 3) (kc := 162) (Mc := mt162) (h := 7) (i := 1) (ln := 1) (w' := (true, n, (e + 1), v1.2)) (pc' := 8) (L' := [some (pvR 10 0 0), none]) [pvR 10 0 0] [] (Or.inl rfl) dL_begin_1 rm_12_76 mtE162 rfl rfl rfl (Nat.le_of_ble_eq_true rfl) (Or.inr ⟨_, _, 0, rfl, Or.inl rfl⟩) (by decide +kernel) (by decide) (by decide) (Or.inr ⟨_, dL_begin_7, rfl, rfl⟩) (Nat.le_of_ble_eq_true rfl) rfl rfl k2 ?_
      refine go_iconst (pc' := 9) dL_begin_8 rfl (r32_c rfl) ?_
      cases h
      exact go_iret dL_begin_9 rfl rfl
    · rw [if_neg c4] at h
      cases h

set_option maxRecDepth 10000 in
theorem l_FR_restore (d : Nat) (n e : Nat) (σ : Hp) (r : Hp) (h : f_FR_restore σ = some r) : Ev (d + 1) 166 [pvR 1 0 101] (true, n, e, σ) (0, none, true, n, e, r) := by
  unfold f_FR_restore at h
  refine Ev.of mtE166 rfl rfl rfl rfl ?_
  show Go none (Ev (d + 0)) mt166 0 [some (pvR 1 0 101)] [] (true, n, e, σ) (0, none, true, n, e, r)
  refine go_aload_n (pc' := 1) dX1_restore_0 rfl rfl (Nat.le_of_ble_eq_true rfl) ?_
  refine go_aload_n (pc' := 2) dX1_restore_1 rfl rfl (Nat.le_of_ble_eq_true rfl) ?_
  refine go_getI (pc' := 5) dX1_restore_2 rfl rf_1_42 rfl ?_
  refine go_putI (pc' := 8) dX1_restore_5 rfl rf_1_30 rfl ?_
  refine go_aload_n (pc' := 9) dX1_restore_8 rfl rfl (Nat.le_of_ble_eq_true rfl) ?_
  refine go_getR (k' := 12) (L0 := 50) (P' := 105) (pc' := 12) dX1_restore_9 rfl rf_1_21 rfl rfl (by omega) ?_
  refine go_iconst (pc' := 13) dX1_restore_12 rfl (r32_c rfl) ?_
  refine go_aload_n (pc' := 14) dX1_restore_13 rfl rfl (Nat.le_of_ble_eq_true rfl) ?_
  refine go_getR (k' := 12) (L0 := 50) (P' := 102) (pc' := 17) dX1_restore_14 rfl rf_1_9 rfl rfl (by omega) ?_
  refine go_iconst (pc' := 18) dX1_restore_17 rfl (r32_c rfl) ?_
  refine go_bipush (pc' := 20) dX1_restore_18 rfl (r32_c rfl) (by decide) ?_
  obtain ⟨g1, h⟩ := gd h
  refine go_copy (pc' := 23) dX1_restore_20 rfl rm_1_45 (Nat.le_of_ble_eq_true rfl) g1 ?_
  refine go_aload_n (pc' := 24) dX1_restore_23 rfl rfl (Nat.le_of_ble_eq_true rfl) ?_
  refine go_getR (k' := 12) (L0 := 50) (P' := 106) (pc' := 27) dX1_restore_24 rfl rf_1_24 rfl rfl (by omega) ?_
  refine go_iconst (pc' := 28) dX1_restore_27 rfl (r32_c rfl) ?_
  refine go_aload_n (pc' := 29) dX1_restore_28 rfl rfl (Nat.le_of_ble_eq_true rfl) ?_
  refine go_getR (k' := 12) (L0 := 50) (P' := 103) (pc' := 32) dX1_restore_29 rfl rf_1_15 rfl rfl (by omega) ?_
  refine go_iconst (pc' := 33) dX1_restore_32 rfl (r32_c rfl) ?_
  refine go_bipush (pc' := 35) dX1_restore_33 rfl (r32_c rfl) (by decide) ?_
  obtain ⟨g2, h⟩ := gd h
  refine go_copy (pc' := 38) dX1_restore_35 rfl rm_1_45 (Nat.le_of_ble_eq_true rfl) g2 ?_
  refine go_aload_n (pc' := 39) dX1_restore_38 rfl rfl (Nat.le_of_ble_eq_true rfl) ?_
  refine go_getR (k' := 12) (L0 := 50) (P' := 107) (pc' := 42) dX1_restore_39 rfl rf_1_27 rfl rfl (by omega) ?_
  refine go_iconst (pc' := 43) dX1_restore_42 rfl (r32_c rfl) ?_
  refine go_aload_n (pc' := 44) dX1_restore_43 rfl rfl (Nat.le_of_ble_eq_true rfl) ?_
  refine go_getR (k' := 12) (L0 := 50) (P' := 104) (pc' := 47) dX1_restore_44 rfl rf_1_18 rfl rfl (by omega) ?_
  refine go_iconst (pc' := 48) dX1_restore_47 rfl (r32_c rfl) ?_
  refine go_bipush (pc' := 50) dX1_restore_48 rfl (r32_c rfl) (by decide) ?_
  obtain ⟨g3, h⟩ := gd h
  refine go_copy (pc' := 53) dX1_restore_50 rfl rm_1_45 (Nat.le_of_ble_eq_true rfl) g3 ?_
  cases h
  exact go_vret dX1_restore_53 rfl rfl

set_option maxRecDepth 10000 in
theorem l_C_end (d : Nat) (n e : Nat) (σ : Hp) (x1 : Int) (r : Nat × Int × Hp) (h : f_C_end σ x1 = some r) : Ev (d + 2) 165 [pvR 10 0 0, pvI x1] (true, n, e, σ) (r.1, if r.1 = 0 then some (pvI r.2.1) else none, true, n, e + if r.1 = 0 then 0 else 1, r.2.2) := by
  unfold f_C_end at h
  refine Ev.of mtE165 rfl rfl rfl rfl ?_
  show Go none (Ev (d + 1)) mt165 0 [some (pvR 10 0 0), some (pvI x1)] [] (true, n, e, σ) (r.1, if r.1 = 0 then some (pvI r.2.1) else none, true, n, e + if r.1 = 0 then 0 else 1, r.2.2)
  refine go_aload_n (pc' := 1) dX10_end_0 rfl rfl (Nat.le_of_ble_eq_true rfl) ?_
  refine go_getR (k' := 1) (L0 := 0) (P' := 101) (pc' := 4) dX10_end_1 rfl rf_10_28 rfl rfl (by omega) ?_
  refine go_getZ (pc' := 7) dX10_end_4 rfl rf_10_313 rfl ?_
  obtain ⟨v1, k2, h⟩ := bd h
  by_cases c3 : v1 = 0
  · rw [if_pos c3] at h
    have k2 := l_C_need (d + 0) n e σ (σ 101 2) _ k2
    rw [c3] at k2
    refine go_call (kc := 26) (Mc := mt26) (v := none) (w' := (true, n, e, σ)) (pc' := 10) (st' := []) [pvI (σ 101 2)] [] (Or.inr (Or.inl rfl)) dX10_end_7 rfl rm_10_84 mtE26 rfl rfl rfl (Nat.le_of_ble_eq_true rfl) (Or.inl (by decide)) k2 rfl ?_
    refine go_aload_n (pc' := 11) dX10_end_10 rfl rfl (Nat.le_of_ble_eq_true rfl) ?_
    refine go_getR (k' := 1) (L0 := 0) (P' := 101) (pc' := 14) dX10_end_11 rfl rf_10_28 rfl rfl (by omega) ?_
    refine go_iconst (pc' := 15) dX10_end_14 rfl (r32_c rfl) ?_
    obtain ⟨g4, h⟩ := gd h
    refine go_putZ (pc' := 18) dX10_end_15 rfl rf_10_313 rfl g4 ?_
    refine go_iload_n (pc' := 19) dX10_end_18 rfl rfl ?_
    obtain ⟨j5, k6, h⟩ := bd h
    have k6J : Go none (Ev (d + 1)) mt165 36 [some (pvR 10 0 0), some (pvI x1)] [] (true, n, e, j5) (r.1, if r.1 = 0 then some (pvI r.2.1) else none, true, n, e + if r.1 = 0 then 0 else 1, r.2.2) := by
      refine go_aload_n (pc' := 37) dX10_end_36 rfl rfl (Nat.le_of_ble_eq_true rfl) ?_
      refine go_getR (k' := 1) (L0 := 0) (P' := 101) (pc' := 40) dX10_end_37 rfl rf_10_28 rfl rfl (by omega) ?_
      refine go_getI (pc' := 43) dX10_end_40 rfl rf_10_214 rfl ?_
      cases h
      exact go_iret dX10_end_43 rfl rfl
    clear h
    have h := k6
    refine go_if_ne (t := 36) (pc' := 22) dX10_end_19 rfl rfl (fun c11 => ?_) (fun c11 => ?_)
    · rw [if_pos (show x1 ≠ 0 from c11)] at h
      cases h
      exact k6J
    · rw [if_neg (show ¬ (x1 ≠ 0) from c11)] at h
      refine go_aload_n (pc' := 23) dX10_end_22 rfl rfl (Nat.le_of_ble_eq_true rfl) ?_
      refine go_getR (k' := 1) (L0 := 0) (P' := 101) (pc' := 26) dX10_end_23 rfl rf_10_28 rfl rfl (by omega) ?_
      obtain ⟨v7, k8, h⟩ := bd h
      have k8 := l_FR_restore (d + 0) n e (hset σ 101 2 0) _ k8
      refine go_call (kc := 166) (Mc := mt166) (v := none) (w' := (true, n, e, v7)) (pc' := 29) (st' := []) [pvR 1 0 101] [] (Or.inl rfl) dX10_end_26 rfl rm_10_319 mtE166 rfl rfl rfl (Nat.le_of_ble_eq_true rfl) (Or.inr ⟨_, _, 101, rfl, Or.inl rfl⟩) k8 rfl ?_
      refine go_aload_n (pc' := 30) dX10_end_29 rfl rfl (Nat.le_of_ble_eq_true rfl) ?_
      refine go_getR (k' := 3) (L0 := 0) (P' := 108) (pc' := 33) dX10_end_30 rfl rf_10_35 rfl rfl (by omega) ?_
      obtain ⟨v9, k10, h⟩ := bd h
      have k10 := l_K_dropAll (d + 0) n e v7 _ k10
      refine go_call (kc := 13) (Mc := mt13) (v := none) (w' := (true, n, e, v9)) (pc' := 36) (st' := []) [pvR 3 0 108] [] (Or.inl rfl) dX10_end_33 rfl rm_10_105 mtE13 rfl rfl rfl (Nat.le_of_ble_eq_true rfl) (Or.inr ⟨_, _, 108, rfl, Or.inl rfl⟩) k10 rfl ?_
      cases h
      exact k6J
  · rw [if_neg c3] at h
    obtain ⟨g12, h⟩ := gd h
    cases h
    have k2 := l_C_need (d + 0) n e σ (σ 101 2) _ k2
    simp only [if_neg c3] at k2 ⊢
    exact go_callX (kc := 26) (Mc := mt26) [pvI (σ 101 2)] [] (Or.inr rfl) dX10_end_7 rm_10_84 mtE26 rfl rfl rfl (Nat.le_of_ble_eq_true rfl) (Or.inl (by decide)) rfl c3 g12 k2 rfl

set_option maxRecDepth 10000 in
theorem l_L_end (d : Nat) (n e : Nat) (σ : Hp) (x2 : Int) (r : Int × Nat × Hp) (h : f_L_end σ e x2 = some r) : Ev (d + 3) 164 [pvR 10 0 0, pvI x2, pvR 13 1 170] (true, n, e, σ) (0, some (pvI r.1), true, n, r.2.1, r.2.2) := by
  unfold f_L_end at h
  refine Ev.of mtE164 rfl rfl rfl rfl ?_
  show Go none (Ev (d + 2)) mt164 0 [some (pvR 10 0 0), some (pvI x2), some (pvR 13 1 170), none] [] (true, n, e, σ) (0, some (pvI r.1), true, n, r.2.1, r.2.2)
  refine go_aload_n (pc' := 1) dL_end_0 rfl rfl (Nat.le_of_ble_eq_true rfl) ?_
  refine go_iconst (pc' := 2) dL_end_1 rfl (r32_c rfl) ?_
  refine go_aload_n (pc' := 3) dL_end_2 rfl rfl (Nat.le_of_ble_eq_true rfl) ?_
  refine go_iload_n (pc' := 4) dL_end_3 rfl rfl ?_
  obtain ⟨v1, k2, h⟩ := bd h
  by_cases c3 : v1.1 = 0
  · rw [if_pos c3] at h
    have k2 := l_C_end (d + 0) n e σ x2 _ k2
    rw [c3] at k2
    refine go_call (kc := 165) (Mc := mt165) (v := some (pvI v1.2.1)) (w' := (true, n, e, v1.2.2)) (pc' := 7) (st' := [pvI v1.2.1, pvI 0, pvR 13 1 170]) [pvR 10 0 0, pvI x2] [pvI 0, pvR 13 1 170] (Or.inl rfl) dL_end_4 rfl rm_12_79 mtE165 rfl rfl rfl (Nat.le_of_ble_eq_true rfl) (Or.inr ⟨_, _, 0, rfl, Or.inl rfl⟩) k2 rfl ?_
    refine go_i2l (pc' := 8) dL_end_7 rfl ?_
    obtain ⟨g4, h⟩ := gd h
    refine go_last (pc' := 9) dL_end_8 rfl g4 ?_
    refine go_goto (t := 15) dL_end_9 rfl ?_
    refine go_iconst (pc' := 16) dL_end_15 rfl (r32_c rfl) ?_
    cases h
    exact go_iret dL_end_16 rfl rfl
  · rw [if_neg c3] at h
    by_cases c5 : v1.1 = 3
    · rw [if_pos c5] at h
      have k2 := l_C_end (d + 0) n e σ x2 _ k2
      rw [c5] at k2
      refine go_callH (x := 3) (kc := 165) (Mc := mt165) (h := 12) (i := 3) (ln := 1) (w' := (true, n, (e + 1), v1.2.2)) (pc' := 13) (L' := [some (pvR 10 0 0), some (pvI x2), some (pvR 13 1 170), none]) [pvR 10 0 0, pvI x2] [pvI 0, pvR 13 1 170] (Or.inl rfl) dL_end_4 rm_12_79 mtE165 rfl rfl rfl (Nat.le_of_ble_eq_true rfl) (Or.inr ⟨_, _, 0, rfl, Or.inl rfl⟩) (by decide +kernel) (by decide) (by decide) (Or.inr ⟨_, dL_end_12, rfl, rfl⟩) (Nat.le_of_ble_eq_true rfl) rfl rfl k2 ?_
      refine go_iconst (pc' := 14) dL_end_13 rfl (r32_c rfl) ?_
      cases h
      exact go_iret dL_end_14 rfl rfl
    · rw [if_neg c5] at h
      cases h

set_option maxRecDepth 10000 in
theorem l_M_thrown (d : Nat) (n e : Nat) (σ : Hp) (r : Int) (h : f_M_thrown σ = some r) : Ev (d + 1) 168 [pvR 11 0 129] (true, n, e, σ) (0, some (pvI r), true, n, e, σ) := by
  unfold f_M_thrown at h
  refine Ev.of mtE168 rfl rfl rfl rfl ?_
  show Go none (Ev (d + 0)) mt168 0 [some (pvR 11 0 129)] [] (true, n, e, σ) (0, some (pvI r), true, n, e, σ)
  refine go_aload_n (pc' := 1) dX11_thrown_0 rfl rfl (Nat.le_of_ble_eq_true rfl) ?_
  refine go_getI (pc' := 4) dX11_thrown_1 rfl rf_11_140 rfl ?_
  cases h
  exact go_iret dX11_thrown_4 rfl rfl

set_option maxRecDepth 10000 in
theorem l_M_in (d : Nat) (n e : Nat) (σ : Hp) (x1 : Int) (x2 : Int) (x3 : Int) (r : Int) (h : f_M_in σ x1 x2 x3 = some r) : Ev (d + 1) 172 [pvR 11 0 129, pvL x1, pvL x2, pvL x3] (true, n, e, σ) (0, some (pvI r), true, n, e, σ) := by
  unfold f_M_in at h
  refine Ev.of mtE172 rfl rfl rfl rfl ?_
  show Go none (Ev (d + 0)) mt172 0 [some (pvR 11 0 129), some (pvL x1), none, some (pvL x2), none, some (pvL x3), none] [] (true, n, e, σ) (0, some (pvI r), true, n, e, σ)
  refine go_lload_n (pc' := 1) dX11_in_0 rfl rfl ?_
  refine go_lload_n (pc' := 2) dX11_in_1 rfl rfl ?_
  refine go_lcmp (pc' := 3) dX11_in_2 rfl ?_
  obtain ⟨j1, k2, h⟩ := bd h
  have k2J : Go none (Ev (d + 0)) mt172 18 [some (pvR 11 0 129), some (pvL x1), none, some (pvL x2), none, some (pvL x3), none] [pvI j1] (true, n, e, σ) (0, some (pvI r), true, n, e, σ) := by
    obtain ⟨g4, h⟩ := gd h
    cases h
    exact go_zret dX11_in_18 rfl g4 rfl
  clear h
  have h := k2
  refine go_if_lt (t := 17) (pc' := 6) dX11_in_3 rfl rfl (fun c5 => ?_) (fun c5 => ?_)
  · rw [if_pos (show (lcm x1 x2) < 0 from c5)] at h
    refine go_iconst (pc' := 18) dX11_in_17 rfl (r32_c rfl) ?_
    cases h
    exact k2J
  · rw [if_neg (show ¬ ((lcm x1 x2) < 0) from c5)] at h
    refine go_lload_n (pc' := 7) dX11_in_6 rfl rfl ?_
    refine go_lload (pc' := 9) dX11_in_7 rfl rfl ?_
    refine go_lcmp (pc' := 10) dX11_in_9 rfl ?_
    refine go_if_gt (t := 17) (pc' := 13) dX11_in_10 rfl rfl (fun c3 => ?_) (fun c3 => ?_)
    · rw [if_pos (show 0 < (lcm x1 x3) from c3)] at h
      refine go_iconst (pc' := 18) dX11_in_17 rfl (r32_c rfl) ?_
      cases h
      exact k2J
    · rw [if_neg (show ¬ (0 < (lcm x1 x3)) from c3)] at h
      refine go_iconst (pc' := 14) dX11_in_13 rfl (r32_c rfl) ?_
      refine go_goto (t := 18) dX11_in_14 rfl ?_
      cases h
      exact k2J

set_option maxRecDepth 10000 in
theorem l_M_isDim (d : Nat) (n e : Nat) (σ : Hp) (x1 : Int) (r : Int) (h : f_M_isDim σ x1 = some r) : Ev (d + 2) 171 [pvR 11 0 129, pvI x1] (true, n, e, σ) (0, some (pvI r), true, n, e, σ) := by
  unfold f_M_isDim at h
  refine Ev.of mtE171 rfl rfl rfl rfl ?_
  show Go none (Ev (d + 1)) mt171 0 [some (pvR 11 0 129), some (pvI x1)] [] (true, n, e, σ) (0, some (pvI r), true, n, e, σ)
  refine go_aload_n (pc' := 1) dX11_isDim_0 rfl rfl (Nat.le_of_ble_eq_true rfl) ?_
  refine go_iload_n (pc' := 2) dX11_isDim_1 rfl rfl ?_
  refine go_i2l (pc' := 3) dX11_isDim_2 rfl ?_
  refine go_lconst (z := 0) (pc' := 4) dX11_isDim_3 rfl rfl ?_
  refine go_ldc2 (pc' := 7) dX11_isDim_4 rfl (r64_c rfl) rc_11_143 ?_
  obtain ⟨v1, k2, h⟩ := bd h
  have k2 := l_M_in (d + 0) n e σ x1 0 2 _ k2
  refine go_call (kc := 172) (Mc := mt172) (v := some (pvI v1)) (w' := (true, n, e, σ)) (pc' := 10) (st' := [pvI v1]) [pvR 11 0 129, pvL x1, pvL 0, pvL 2] [] (Or.inl rfl) dX11_isDim_7 rfl rm_11_145 mtE172 rfl rfl rfl (Nat.le_of_ble_eq_true rfl) (Or.inr ⟨_, _, 129, rfl, Or.inl rfl⟩) k2 rfl ?_
  obtain ⟨g3, h⟩ := gd h
  cases h
  exact go_zret dX11_isDim_10 rfl g3 rfl

set_option maxRecDepth 10000 in
theorem l_M_is (d : Nat) (n e : Nat) (σ : Hp) (x1 : Int) (x2 : Int) (r : Int) (h : f_M_is σ x1 x2 = some r) : Ev (d + 3) 170 [pvR 11 0 129, pvI x1, pvI x2] (true, n, e, σ) (0, some (pvI r), true, n, e, σ) := by
  unfold f_M_is at h
  refine Ev.of mtE170 rfl rfl rfl rfl ?_
  show Go none (Ev (d + 2)) mt170 0 [some (pvR 11 0 129), some (pvI x1), some (pvI x2)] [] (true, n, e, σ) (0, some (pvI r), true, n, e, σ)
  refine go_aload_n (pc' := 1) dX11_is_0 rfl rfl (Nat.le_of_ble_eq_true rfl) ?_
  refine go_iload_n (pc' := 2) dX11_is_1 rfl rfl ?_
  obtain ⟨v1, k2, h⟩ := bd h
  have k2 := l_M_isDim (d + 0) n e σ x1 _ k2
  refine go_call (kc := 171) (Mc := mt171) (v := some (pvI v1)) (w' := (true, n, e, σ)) (pc' := 5) (st' := [pvI v1]) [pvR 11 0 129, pvI x1] [] (Or.inl rfl) dX11_is_2 rfl rm_11_149 mtE171 rfl rfl rfl (Nat.le_of_ble_eq_true rfl) (Or.inr ⟨_, _, 129, rfl, Or.inl rfl⟩) k2 rfl ?_
  obtain ⟨j3, k4, h⟩ := bd h
  have k4J : Go none (Ev (d + 2)) mt170 32 [some (pvR 11 0 129), some (pvI x1), some (pvI x2)] [pvI j3] (true, n, e, σ) (0, some (pvI r), true, n, e, σ) := by
    obtain ⟨g10, h⟩ := gd h
    cases h
    exact go_zret dX11_is_32 rfl g10 rfl
  clear h
  have h := k4
  refine go_if_eq (t := 31) (pc' := 8) dX11_is_5 rfl rfl (fun c11 => ?_) (fun c11 => ?_)
  · rw [if_pos (show v1 = 0 from c11)] at h
    refine go_iconst (pc' := 32) dX11_is_31 rfl (r32_c rfl) ?_
    cases h
    exact k4J
  · rw [if_neg (show ¬ (v1 = 0) from c11)] at h
    refine go_aload_n (pc' := 9) dX11_is_8 rfl rfl (Nat.le_of_ble_eq_true rfl) ?_
    refine go_iload_n (pc' := 10) dX11_is_9 rfl rfl ?_
    refine go_i2l (pc' := 11) dX11_is_10 rfl ?_
    refine go_lconst (z := 0) (pc' := 12) dX11_is_11 rfl rfl ?_
    refine go_aload_n (pc' := 13) dX11_is_12 rfl rfl (Nat.le_of_ble_eq_true rfl) ?_
    refine go_getR (k' := 12) (L0 := 3) (P' := 130) (pc' := 16) dX11_is_13 rfl rf_11_9 rfl rfl (by omega) ?_
    refine go_iload_n (pc' := 17) dX11_is_16 rfl rfl ?_
    obtain ⟨g5, h⟩ := gd h
    refine go_iald (pc' := 18) dX11_is_17 rfl g5 ?_
    refine go_iconst (pc' := 19) dX11_is_18 rfl (r32_c rfl) ?_
    obtain ⟨g6, h⟩ := gd h
    refine go_isub (pc' := 20) dX11_is_19 rfl g6 ?_
    refine go_i2l (pc' := 21) dX11_is_20 rfl ?_
    obtain ⟨v7, k8, h⟩ := bd h
    have k8 := l_M_in (d + 1) n e σ x2 0 ((σ 130 x1) - 1) _ k8
    refine go_call (kc := 172) (Mc := mt172) (v := some (pvI v7)) (w' := (true, n, e, σ)) (pc' := 24) (st' := [pvI v7]) [pvR 11 0 129, pvL x2, pvL 0, pvL ((σ 130 x1) - 1)] [] (Or.inl rfl) dX11_is_21 rfl rm_11_145 mtE172 rfl rfl rfl (Nat.le_of_ble_eq_true rfl) (Or.inr ⟨_, _, 129, rfl, Or.inl rfl⟩) k8 rfl ?_
    refine go_if_eq (t := 31) (pc' := 27) dX11_is_24 rfl rfl (fun c9 => ?_) (fun c9 => ?_)
    · rw [if_pos (show v7 = 0 from c9)] at h
      refine go_iconst (pc' := 32) dX11_is_31 rfl (r32_c rfl) ?_
      cases h
      exact k4J
    · rw [if_neg (show ¬ (v7 = 0) from c9)] at h
      refine go_iconst (pc' := 28) dX11_is_27 rfl (r32_c rfl) ?_
      refine go_goto (t := 32) dX11_is_28 rfl ?_
      cases h
      exact k4J

set_option maxRecDepth 10000 in
theorem l_M_isPlain (d : Nat) (n e : Nat) (σ : Hp) (x1 : Int) (x2 : Int) (r : Int) (h : f_M_isPlain σ x1 x2 = some r) : Ev (d + 1) 173 [pvR 11 0 129, pvI x1, pvI x2] (true, n, e, σ) (0, some (pvI r), true, n, e, σ) := by
  unfold f_M_isPlain at h
  refine Ev.of mtE173 rfl rfl rfl rfl ?_
  show Go none (Ev (d + 0)) mt173 0 [some (pvR 11 0 129), some (pvI x1), some (pvI x2)] [] (true, n, e, σ) (0, some (pvI r), true, n, e, σ)
  refine go_aload_n (pc' := 1) dX11_isPlain_0 rfl rfl (Nat.le_of_ble_eq_true rfl) ?_
  refine go_getR (k' := 12) (L0 := 36) (P' := 131) (pc' := 4) dX11_isPlain_1 rfl rf_11_15 rfl rfl (by omega) ?_
  refine go_bipush (pc' := 6) dX11_isPlain_4 rfl (r32_c rfl) (by decide) ?_
  refine go_iload_n (pc' := 7) dX11_isPlain_6 rfl rfl ?_
  obtain ⟨g1, h⟩ := gd h
  refine go_imul (pc' := 8) dX11_isPlain_7 rfl g1 ?_
  refine go_iload_n (pc' := 9) dX11_isPlain_8 rfl rfl ?_
  obtain ⟨g2, h⟩ := gd h
  refine go_iadd (pc' := 10) dX11_isPlain_9 rfl g2 ?_
  obtain ⟨g3, h⟩ := gd h
  refine go_iald (pc' := 11) dX11_isPlain_10 rfl g3 ?_
  obtain ⟨j4, k5, h⟩ := bd h
  have k5J : Go none (Ev (d + 0)) mt173 19 [some (pvR 11 0 129), some (pvI x1), some (pvI x2)] [pvI j4] (true, n, e, σ) (0, some (pvI r), true, n, e, σ) := by
    obtain ⟨g6, h⟩ := gd h
    cases h
    exact go_zret dX11_isPlain_19 rfl g6 rfl
  clear h
  have h := k5
  refine go_if_ne (t := 18) (pc' := 14) dX11_isPlain_11 rfl rfl (fun c7 => ?_) (fun c7 => ?_)
  · rw [if_pos (show (σ 131 ((12 * x1) + x2)) ≠ 0 from c7)] at h
    refine go_iconst (pc' := 19) dX11_isPlain_18 rfl (r32_c rfl) ?_
    cases h
    exact k5J
  · rw [if_neg (show ¬ ((σ 131 ((12 * x1) + x2)) ≠ 0) from c7)] at h
    refine go_iconst (pc' := 15) dX11_isPlain_14 rfl (r32_c rfl) ?_
    refine go_goto (t := 19) dX11_isPlain_15 rfl ?_
    cases h
    exact k5J

set_option maxRecDepth 10000 in
theorem l_M_holds (d : Nat) (n e : Nat) (σ : Hp) (x1 : Int) (r : Int × Hp) (h : f_M_holds σ x1 = some r) : Ev (d + 1) 174 [pvR 11 0 129, pvI x1] (true, n, e, σ) (0, some (pvI r.1), true, n, e, r.2) := by
  unfold f_M_holds at h
  refine Ev.of mtE174 rfl rfl rfl rfl ?_
  show Go none (Ev (d + 0)) mt174 0 [some (pvR 11 0 129), some (pvI x1)] [] (true, n, e, σ) (0, some (pvI r.1), true, n, e, r.2)
  refine go_aload_n (pc' := 1) dX11_holds_0 rfl rfl (Nat.le_of_ble_eq_true rfl) ?_
  refine go_iload_n (pc' := 2) dX11_holds_1 rfl rfl ?_
  refine go_putI (pc' := 5) dX11_holds_2 rfl rf_11_140 rfl ?_
  refine go_iload_n (pc' := 6) dX11_holds_5 rfl rfl ?_
  obtain ⟨j1, k2, h⟩ := bd h
  have k2J : Go none (Ev (d + 0)) mt174 14 [some (pvR 11 0 129), some (pvI x1)] [pvI j1] (true, n, e, (hset σ 129 50 x1)) (0, some (pvI r.1), true, n, e, r.2) := by
    obtain ⟨g3, h⟩ := gd h
    cases h
    exact go_zret dX11_holds_14 rfl g3 rfl
  clear h
  have h := k2
  refine go_if_le (t := 13) (pc' := 9) dX11_holds_6 rfl rfl (fun c4 => ?_) (fun c4 => ?_)
  · rw [if_pos (show x1 ≤ 0 from c4)] at h
    refine go_iconst (pc' := 14) dX11_holds_13 rfl (r32_c rfl) ?_
    cases h
    exact k2J
  · rw [if_neg (show ¬ (x1 ≤ 0) from c4)] at h
    refine go_iconst (pc' := 10) dX11_holds_9 rfl (r32_c rfl) ?_
    refine go_goto (t := 14) dX11_holds_10 rfl ?_
    cases h
    exact k2J

set_option maxRecDepth 10000 in
theorem l_M_make (d : Nat) (n e : Nat) (σ : Hp) (x1 : Int) (x2 : Int) (r : Int × Hp) (h : f_M_make σ x1 x2 = some r) : Ev (d + 1) 175 [pvR 11 0 129, pvI x1, pvI x2] (true, n, e, σ) (0, some (pvI r.1), true, n, e, r.2) := by
  unfold f_M_make at h
  refine Ev.of mtE175 rfl rfl rfl rfl ?_
  show Go none (Ev (d + 0)) mt175 0 [some (pvR 11 0 129), some (pvI x1), some (pvI x2), none] [] (true, n, e, σ) (0, some (pvI r.1), true, n, e, r.2)
  refine go_aload_n (pc' := 1) dX11_make_0 rfl rfl (Nat.le_of_ble_eq_true rfl) ?_
  refine go_getR (k' := 12) (L0 := 3) (P' := 130) (pc' := 4) dX11_make_1 rfl rf_11_9 rfl rfl (by omega) ?_
  refine go_iload_n (pc' := 5) dX11_make_4 rfl rfl ?_
  obtain ⟨g1, h⟩ := gd h
  refine go_iald (pc' := 6) dX11_make_5 rfl g1 ?_
  refine go_istore_n (L' := [some (pvR 11 0 129), some (pvI x1), some (pvI x2), some (pvI (σ 130 x1))]) (pc' := 7) dX11_make_6 rfl (Nat.le_of_ble_eq_true rfl) rfl ?_
  refine go_aload_n (pc' := 8) dX11_make_7 rfl rfl (Nat.le_of_ble_eq_true rfl) ?_
  refine go_getR (k' := 12) (L0 := 3) (P' := 130) (pc' := 11) dX11_make_8 rfl rf_11_9 rfl rfl (by omega) ?_
  refine go_iload_n (pc' := 12) dX11_make_11 rfl rfl ?_
  refine go_dup2 (pc' := 13) dX11_make_12 rfl (Nat.ne_of_beq_eq_false rfl) (Nat.ne_of_beq_eq_false rfl) ?_
  obtain ⟨g2, h⟩ := gd h
  refine go_iald (pc' := 14) dX11_make_13 rfl g2 ?_
  refine go_iconst (pc' := 15) dX11_make_14 rfl (r32_c rfl) ?_
  obtain ⟨g3, h⟩ := gd h
  refine go_iadd (pc' := 16) dX11_make_15 rfl g3 ?_
  obtain ⟨g4, h⟩ := gd h
  refine go_iast (pc' := 17) dX11_make_16 rfl g4 ?_
  refine go_aload_n (pc' := 18) dX11_make_17 rfl rfl (Nat.le_of_ble_eq_true rfl) ?_
  refine go_getR (k' := 12) (L0 := 36) (P' := 131) (pc' := 21) dX11_make_18 rfl rf_11_15 rfl rfl (by omega) ?_
  refine go_bipush (pc' := 23) dX11_make_21 rfl (r32_c rfl) (by decide) ?_
  refine go_iload_n (pc' := 24) dX11_make_23 rfl rfl ?_
  obtain ⟨g5, h⟩ := gd h
  refine go_imul (pc' := 25) dX11_make_24 rfl g5 ?_
  refine go_iload_n (pc' := 26) dX11_make_25 rfl rfl ?_
  obtain ⟨g6, h⟩ := gd h
  refine go_iadd (pc' := 27) dX11_make_26 rfl g6 ?_
  refine go_iload_n (pc' := 28) dX11_make_27 rfl rfl ?_
  obtain ⟨g7, h⟩ := gd h
  refine go_iast (pc' := 29) dX11_make_28 rfl g7 ?_
  refine go_iload_n (pc' := 30) dX11_make_29 rfl rfl ?_
  cases h
  exact go_iret dX11_make_30 rfl rfl

