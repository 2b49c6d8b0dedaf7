/-! ===== links: each function is what its bytecode does ===== -/
set_option maxRecDepth 10000 in
theorem l_MS_kindOf (d : Nat) (n e : Nat) (σ : Hp) (x1 : Int) (r : Int) (h : f_MS_kindOf σ x1 = some r) : Ev (d + 2) 62 [pvR 4 0 95, pvI x1] (true, n, e, σ) (0, some (pvI r), true, n, e, σ) := by
  unfold f_MS_kindOf at h
  refine Ev.of mtE62 rfl rfl rfl rfl ?_
  show Go none (Ev (d + 1)) mt62 0 [some (pvR 4 0 95), some (pvI x1)] [] (true, n, e, σ) (0, some (pvI r), true, n, e, σ)
  refine go_aload_n (pc' := 1) dX4_kindOf_0 rfl rfl (Nat.le_of_ble_eq_true rfl) ?_
  refine go_iload_n (pc' := 2) dX4_kindOf_1 rfl rfl ?_
  obtain ⟨v1, k2, h⟩ := bd h
  have k2 := l_MS_has (d + 0) n e σ x1 _ k2
  refine go_call (kc := 38) (Mc := mt38) (v := some (pvI v1)) (w' := (true, n, e, σ)) (pc' := 5) (st' := [pvI v1]) [pvR 4 0 95, pvI x1] [] (Or.inl rfl) dX4_kindOf_2 rfl rm_4_31 mtE38 rfl rfl rfl (Nat.le_of_ble_eq_true rfl) (Or.inr ⟨_, _, 95, rfl, Or.inl rfl⟩) k2 rfl ?_
  obtain ⟨j3, k4, h⟩ := bd h
  have k4J : Go none (Ev (d + 1)) mt62 18 [some (pvR 4 0 95), some (pvI x1)] [pvI j3] (true, n, e, σ) (0, some (pvI r), true, n, e, σ) := by
    cases h
    exact go_iret dX4_kindOf_18 rfl rfl
  clear h
  have h := k4
  refine go_if_eq (t := 17) (pc' := 8) dX4_kindOf_5 rfl rfl (fun c6 => ?_) (fun c6 => ?_)
  · rw [if_pos (show v1 = 0 from c6)] at h
    refine go_iconst (pc' := 18) dX4_kindOf_17 rfl (r32_c rfl) ?_
    cases h
    exact k4J
  · rw [if_neg (show ¬ (v1 = 0) from c6)] at h
    refine go_aload_n (pc' := 9) dX4_kindOf_8 rfl rfl (Nat.le_of_ble_eq_true rfl) ?_
    refine go_getR (k' := 12) (L0 := 4) (P' := 96) (pc' := 12) dX4_kindOf_9 rfl rf_4_9 rfl rfl (by omega) ?_
    refine go_iload_n (pc' := 13) dX4_kindOf_12 rfl rfl ?_
    obtain ⟨g5, h⟩ := gd h
    refine go_iald (pc' := 14) dX4_kindOf_13 rfl g5 ?_
    refine go_goto (t := 18) dX4_kindOf_14 rfl ?_
    cases h
    exact k4J

set_option maxRecDepth 10000 in
theorem l_FR_find_2 (d : Nat) (n : Nat) (e : Nat) (σ : Hp) (x1 : Int) (x2 : Int) : ∀ (F : Nat) (y1 : Int) (r : Int), f_FR_find_2 σ x1 x2 F y1 = some r → Go none (Ev (d + 0)) mt63 2 [some (pvR 1 0 101), some (pvI x1), some (pvI x2), some (pvI y1)] [] (true, n, e, σ) (0, some (pvI r), true, n, e, σ) := by
  intro F
  induction F with
  | zero =>
    intro _ _ h
    rw [f_FR_find_2] at h
    cases h
  | succ F ih =>
    intro y1 r h
    rw [f_FR_find_2] at h
    refine go_iload_n (pc' := 3) dX1_find_2 rfl rfl ?_
    refine go_aload_n (pc' := 4) dX1_find_3 rfl rfl (Nat.le_of_ble_eq_true rfl) ?_
    refine go_getI (pc' := 7) dX1_find_4 rfl rf_1_30 rfl ?_
    refine go_icmp_ge (t := 38) (pc' := 10) dX1_find_7 rfl rfl (fun c8 => ?_) (fun c8 => ?_)
    · rw [if_pos (show (σ 101 0) ≤ y1 from c8)] at h
      refine go_iconst (pc' := 39) dX1_find_38 rfl (r32_c rfl) ?_
      cases h
      exact go_iret dX1_find_39 rfl rfl
    · rw [if_neg (show ¬ ((σ 101 0) ≤ y1) from c8)] at h
      refine go_aload_n (pc' := 11) dX1_find_10 rfl rfl (Nat.le_of_ble_eq_true rfl) ?_
      refine go_getR (k' := 12) (L0 := 50) (P' := 102) (pc' := 14) dX1_find_11 rfl rf_1_9 rfl rfl (by omega) ?_
      refine go_iload_n (pc' := 15) dX1_find_14 rfl rfl ?_
      obtain ⟨g2, h⟩ := gd h
      refine go_iald (pc' := 16) dX1_find_15 rfl g2 ?_
      refine go_iload_n (pc' := 17) dX1_find_16 rfl rfl ?_
      refine go_icmp_ne (t := 32) (pc' := 20) dX1_find_17 rfl rfl (fun c7 => ?_) (fun c7 => ?_)
      · rw [if_pos (show (σ 102 y1) ≠ x1 from c7)] at h
        obtain ⟨g3, h⟩ := gd h
        refine go_iinc (L' := [some (pvR 1 0 101), some (pvI x1), some (pvI x2), some (pvI (y1 + 1))]) (pc' := 35) dX1_find_32 rfl rfl g3 rfl ?_
        refine go_goto (t := 2) dX1_find_35 rfl ?_
        exact ih (y1 + 1) _ h
      · rw [if_neg (show ¬ ((σ 102 y1) ≠ x1) from c7)] at h
        refine go_aload_n (pc' := 21) dX1_find_20 rfl rfl (Nat.le_of_ble_eq_true rfl) ?_
        refine go_getR (k' := 12) (L0 := 50) (P' := 103) (pc' := 24) dX1_find_21 rfl rf_1_15 rfl rfl (by omega) ?_
        refine go_iload_n (pc' := 25) dX1_find_24 rfl rfl ?_
        obtain ⟨g4, h⟩ := gd h
        refine go_iald (pc' := 26) dX1_find_25 rfl g4 ?_
        refine go_iload_n (pc' := 27) dX1_find_26 rfl rfl ?_
        refine go_icmp_ne (t := 32) (pc' := 30) dX1_find_27 rfl rfl (fun c6 => ?_) (fun c6 => ?_)
        · rw [if_pos (show (σ 103 y1) ≠ x2 from c6)] at h
          obtain ⟨g5, h⟩ := gd h
          refine go_iinc (L' := [some (pvR 1 0 101), some (pvI x1), some (pvI x2), some (pvI (y1 + 1))]) (pc' := 35) dX1_find_32 rfl rfl g5 rfl ?_
          refine go_goto (t := 2) dX1_find_35 rfl ?_
          exact ih (y1 + 1) _ h
        · rw [if_neg (show ¬ ((σ 103 y1) ≠ x2) from c6)] at h
          refine go_iload_n (pc' := 31) dX1_find_30 rfl rfl ?_
          cases h
          exact go_iret dX1_find_31 rfl rfl

set_option maxRecDepth 10000 in
theorem l_FR_find (d : Nat) (n e : Nat) (σ : Hp) (x1 : Int) (x2 : Int) (r : Int) (h : f_FR_find σ x1 x2 = some r) : Ev (d + 1) 63 [pvR 1 0 101, pvI x1, pvI x2] (true, n, e, σ) (0, some (pvI r), true, n, e, σ) := by
  unfold f_FR_find at h
  refine Ev.of mtE63 rfl rfl rfl rfl ?_
  show Go none (Ev (d + 0)) mt63 0 [some (pvR 1 0 101), some (pvI x1), some (pvI x2), none] [] (true, n, e, σ) (0, some (pvI r), true, n, e, σ)
  refine go_iconst (pc' := 1) dX1_find_0 rfl (r32_c rfl) ?_
  refine go_istore_n (L' := [some (pvR 1 0 101), some (pvI x1), some (pvI x2), some (pvI 0)]) (pc' := 2) dX1_find_1 rfl (Nat.le_of_ble_eq_true rfl) rfl ?_
  exact l_FR_find_2 d n e σ x1 x2 zFuel 0 _ h

set_option maxRecDepth 10000 in
theorem l_FR_add (d : Nat) (n e : Nat) (σ : Hp) (x1 : Int) (x2 : Int) (x3 : Int) (r : Hp) (h : f_FR_add σ x1 x2 x3 = some r) : Ev (d + 1) 64 [pvR 1 0 101, pvI x1, pvI x2, pvI x3] (true, n, e, σ) (0, none, true, n, e, r) := by
  unfold f_FR_add at h
  refine Ev.of mtE64 rfl rfl rfl rfl ?_
  show Go none (Ev (d + 0)) mt64 0 [some (pvR 1 0 101), some (pvI x1), some (pvI x2), some (pvI x3)] [] (true, n, e, σ) (0, none, true, n, e, r)
  refine go_aload_n (pc' := 1) dX1_add_0 rfl rfl (Nat.le_of_ble_eq_true rfl) ?_
  refine go_getI (pc' := 4) dX1_add_1 rfl rf_1_30 rfl ?_
  refine go_bipush (pc' := 6) dX1_add_4 rfl (r32_c rfl) (by decide) ?_
  obtain ⟨j1, k2, h⟩ := bd h
  have k2J : Go none (Ev (d + 0)) mt64 49 [some (pvR 1 0 101), some (pvI x1), some (pvI x2), some (pvI x3)] [] (true, n, e, j1) (0, none, true, n, e, r) := by
    cases h
    exact go_vret dX1_add_49 rfl rfl
  clear h
  have h := k2
  refine go_icmp_ge (t := 49) (pc' := 9) dX1_add_6 rfl rfl (fun c7 => ?_) (fun c7 => ?_)
  · rw [if_pos (show 50 ≤ (σ 101 0) from c7)] at h
    cases h
    exact k2J
  · rw [if_neg (show ¬ (50 ≤ (σ 101 0)) from c7)] at h
    refine go_aload_n (pc' := 10) dX1_add_9 rfl rfl (Nat.le_of_ble_eq_true rfl) ?_
    refine go_getR (k' := 12) (L0 := 50) (P' := 102) (pc' := 13) dX1_add_10 rfl rf_1_9 rfl rfl (by omega) ?_
    refine go_aload_n (pc' := 14) dX1_add_13 rfl rfl (Nat.le_of_ble_eq_true rfl) ?_
    refine go_getI (pc' := 17) dX1_add_14 rfl rf_1_30 rfl ?_
    refine go_iload_n (pc' := 18) dX1_add_17 rfl rfl ?_
    obtain ⟨g3, h⟩ := gd h
    refine go_iast (pc' := 19) dX1_add_18 rfl g3 ?_
    refine go_aload_n (pc' := 20) dX1_add_19 rfl rfl (Nat.le_of_ble_eq_true rfl) ?_
    refine go_getR (k' := 12) (L0 := 50) (P' := 103) (pc' := 23) dX1_add_20 rfl rf_1_15 rfl rfl (by omega) ?_
    refine go_aload_n (pc' := 24) dX1_add_23 rfl rfl (Nat.le_of_ble_eq_true rfl) ?_
    refine go_getI (pc' := 27) dX1_add_24 rfl rf_1_30 rfl ?_
    refine go_iload_n (pc' := 28) dX1_add_27 rfl rfl ?_
    obtain ⟨g4, h⟩ := gd h
    refine go_iast (pc' := 29) dX1_add_28 rfl g4 ?_
    refine go_aload_n (pc' := 30) dX1_add_29 rfl rfl (Nat.le_of_ble_eq_true rfl) ?_
    refine go_getR (k' := 12) (L0 := 50) (P' := 104) (pc' := 33) dX1_add_30 rfl rf_1_18 rfl rfl (by omega) ?_
    refine go_aload_n (pc' := 34) dX1_add_33 rfl rfl (Nat.le_of_ble_eq_true rfl) ?_
    refine go_getI (pc' := 37) dX1_add_34 rfl rf_1_30 rfl ?_
    refine go_iload_n (pc' := 38) dX1_add_37 rfl rfl ?_
    obtain ⟨g5, h⟩ := gd h
    refine go_iast (pc' := 39) dX1_add_38 rfl g5 ?_
    refine go_aload_n (pc' := 40) dX1_add_39 rfl rfl (Nat.le_of_ble_eq_true rfl) ?_
    refine go_dup (pc' := 41) dX1_add_40 rfl (Nat.ne_of_beq_eq_false rfl) ?_
    refine go_getI (pc' := 44) dX1_add_41 rfl rf_1_30 rfl ?_
    refine go_iconst (pc' := 45) dX1_add_44 rfl (r32_c rfl) ?_
    obtain ⟨g6, h⟩ := gd h
    refine go_iadd (pc' := 46) dX1_add_45 rfl g6 ?_
    refine go_putI (pc' := 49) dX1_add_46 rfl rf_1_30 rfl ?_
    cases h
    exact k2J

set_option maxRecDepth 10000 in
theorem l_K_has (d : Nat) (n e : Nat) (σ : Hp) (x1 : Int) (r : Int) (h : f_K_has σ x1 = some r) : Ev (d + 1) 67 [pvR 3 0 108, pvI x1] (true, n, e, σ) (0, some (pvI r), true, n, e, σ) := by
  unfold f_K_has at h
  refine Ev.of mtE67 rfl rfl rfl rfl ?_
  show Go none (Ev (d + 0)) mt67 0 [some (pvR 3 0 108), some (pvI x1)] [] (true, n, e, σ) (0, some (pvI r), true, n, e, σ)
  refine go_iload_n (pc' := 1) dX3_has_0 rfl rfl ?_
  obtain ⟨j1, k2, h⟩ := bd h
  have k2J : Go none (Ev (d + 0)) mt67 23 [some (pvR 3 0 108), some (pvI x1)] [pvI j1] (true, n, e, σ) (0, some (pvI r), true, n, e, σ) := by
    obtain ⟨g5, h⟩ := gd h
    cases h
    exact go_zret dX3_has_23 rfl g5 rfl
  clear h
  have h := k2
  refine go_if_lt (t := 22) (pc' := 4) dX3_has_1 rfl rfl (fun c6 => ?_) (fun c6 => ?_)
  · rw [if_pos (show x1 < 0 from c6)] at h
    refine go_iconst (pc' := 23) dX3_has_22 rfl (r32_c rfl) ?_
    cases h
    exact k2J
  · rw [if_neg (show ¬ (x1 < 0) from c6)] at h
    refine go_iload_n (pc' := 5) dX3_has_4 rfl rfl ?_
    refine go_aload_n (pc' := 6) dX3_has_5 rfl rfl (Nat.le_of_ble_eq_true rfl) ?_
    refine go_getI (pc' := 9) dX3_has_6 rfl rf_3_22 rfl ?_
    refine go_icmp_ge (t := 22) (pc' := 12) dX3_has_9 rfl rfl (fun c4 => ?_) (fun c4 => ?_)
    · rw [if_pos (show (σ 108 0) ≤ x1 from c4)] at h
      refine go_iconst (pc' := 23) dX3_has_22 rfl (r32_c rfl) ?_
      cases h
      exact k2J
    · rw [if_neg (show ¬ ((σ 108 0) ≤ x1) from c4)] at h
      refine go_iload_n (pc' := 13) dX3_has_12 rfl rfl ?_
      refine go_bipush (pc' := 15) dX3_has_13 rfl (r32_c rfl) (by decide) ?_
      refine go_icmp_ge (t := 22) (pc' := 18) dX3_has_15 rfl rfl (fun c3 => ?_) (fun c3 => ?_)
      · rw [if_pos (show 20 ≤ x1 from c3)] at h
        refine go_iconst (pc' := 23) dX3_has_22 rfl (r32_c rfl) ?_
        cases h
        exact k2J
      · rw [if_neg (show ¬ (20 ≤ x1) from c3)] at h
        refine go_iconst (pc' := 19) dX3_has_18 rfl (r32_c rfl) ?_
        refine go_goto (t := 23) dX3_has_19 rfl ?_
        cases h
        exact k2J

set_option maxRecDepth 10000 in
theorem l_K_cellAt (d : Nat) (n e : Nat) (σ : Hp) (x1 : Int) (r : Int) (h : f_K_cellAt σ x1 = some r) : Ev (d + 2) 66 [pvR 3 0 108, pvI x1] (true, n, e, σ) (0, some (pvI r), true, n, e, σ) := by
  unfold f_K_cellAt at h
  refine Ev.of mtE66 rfl rfl rfl rfl ?_
  show Go none (Ev (d + 1)) mt66 0 [some (pvR 3 0 108), some (pvI x1)] [] (true, n, e, σ) (0, some (pvI r), true, n, e, σ)
  refine go_aload_n (pc' := 1) dX3_cellAt_0 rfl rfl (Nat.le_of_ble_eq_true rfl) ?_
  refine go_iload_n (pc' := 2) dX3_cellAt_1 rfl rfl ?_
  obtain ⟨v1, k2, h⟩ := bd h
  have k2 := l_K_has (d + 0) n e σ x1 _ k2
  refine go_call (kc := 67) (Mc := mt67) (v := some (pvI v1)) (w' := (true, n, e, σ)) (pc' := 5) (st' := [pvI v1]) [pvR 3 0 108, pvI x1] [] (Or.inl rfl) dX3_cellAt_2 rfl rm_3_26 mtE67 rfl rfl rfl (Nat.le_of_ble_eq_true rfl) (Or.inr ⟨_, _, 108, rfl, Or.inl rfl⟩) k2 rfl ?_
  obtain ⟨j3, k4, h⟩ := bd h
  have k4J : Go none (Ev (d + 1)) mt66 18 [some (pvR 3 0 108), some (pvI x1)] [pvI j3] (true, n, e, σ) (0, some (pvI r), true, n, e, σ) := by
    cases h
    exact go_iret dX3_cellAt_18 rfl rfl
  clear h
  have h := k4
  refine go_if_eq (t := 17) (pc' := 8) dX3_cellAt_5 rfl rfl (fun c6 => ?_) (fun c6 => ?_)
  · rw [if_pos (show v1 = 0 from c6)] at h
    refine go_iconst (pc' := 18) dX3_cellAt_17 rfl (r32_c rfl) ?_
    cases h
    exact k4J
  · rw [if_neg (show ¬ (v1 = 0) from c6)] at h
    refine go_aload_n (pc' := 9) dX3_cellAt_8 rfl rfl (Nat.le_of_ble_eq_true rfl) ?_
    refine go_getR (k' := 12) (L0 := 20) (P' := 109) (pc' := 12) dX3_cellAt_9 rfl rf_3_9 rfl rfl (by omega) ?_
    refine go_iload_n (pc' := 13) dX3_cellAt_12 rfl rfl ?_
    obtain ⟨g5, h⟩ := gd h
    refine go_iald (pc' := 14) dX3_cellAt_13 rfl g5 ?_
    refine go_goto (t := 18) dX3_cellAt_14 rfl ?_
    cases h
    exact k4J

set_option maxRecDepth 10000 in
theorem l_K_measureAt (d : Nat) (n e : Nat) (σ : Hp) (x1 : Int) (r : Int) (h : f_K_measureAt σ x1 = some r) : Ev (d + 2) 68 [pvR 3 0 108, pvI x1] (true, n, e, σ) (0, some (pvI r), true, n, e, σ) := by
  unfold f_K_measureAt at h
  refine Ev.of mtE68 rfl rfl rfl rfl ?_
  show Go none (Ev (d + 1)) mt68 0 [some (pvR 3 0 108), some (pvI x1)] [] (true, n, e, σ) (0, some (pvI r), true, n, e, σ)
  refine go_aload_n (pc' := 1) dX3_measureAt_0 rfl rfl (Nat.le_of_ble_eq_true rfl) ?_
  refine go_iload_n (pc' := 2) dX3_measureAt_1 rfl rfl ?_
  obtain ⟨v1, k2, h⟩ := bd h
  have k2 := l_K_has (d + 0) n e σ x1 _ k2
  refine go_call (kc := 67) (Mc := mt67) (v := some (pvI v1)) (w' := (true, n, e, σ)) (pc' := 5) (st' := [pvI v1]) [pvR 3 0 108, pvI x1] [] (Or.inl rfl) dX3_measureAt_2 rfl rm_3_26 mtE67 rfl rfl rfl (Nat.le_of_ble_eq_true rfl) (Or.inr ⟨_, _, 108, rfl, Or.inl rfl⟩) k2 rfl ?_
  obtain ⟨j3, k4, h⟩ := bd h
  have k4J : Go none (Ev (d + 1)) mt68 18 [some (pvR 3 0 108), some (pvI x1)] [pvI j3] (true, n, e, σ) (0, some (pvI r), true, n, e, σ) := by
    cases h
    exact go_iret dX3_measureAt_18 rfl rfl
  clear h
  have h := k4
  refine go_if_eq (t := 17) (pc' := 8) dX3_measureAt_5 rfl rfl (fun c6 => ?_) (fun c6 => ?_)
  · rw [if_pos (show v1 = 0 from c6)] at h
    refine go_iconst (pc' := 18) dX3_measureAt_17 rfl (r32_c rfl) ?_
    cases h
    exact k4J
  · rw [if_neg (show ¬ (v1 = 0) from c6)] at h
    refine go_aload_n (pc' := 9) dX3_measureAt_8 rfl rfl (Nat.le_of_ble_eq_true rfl) ?_
    refine go_getR (k' := 12) (L0 := 20) (P' := 110) (pc' := 12) dX3_measureAt_9 rfl rf_3_15 rfl rfl (by omega) ?_
    refine go_iload_n (pc' := 13) dX3_measureAt_12 rfl rfl ?_
    obtain ⟨g5, h⟩ := gd h
    refine go_iald (pc' := 14) dX3_measureAt_13 rfl g5 ?_
    refine go_goto (t := 18) dX3_measureAt_14 rfl ?_
    cases h
    exact k4J

set_option maxRecDepth 10000 in
theorem l_MS_needs (d : Nat) (n e : Nat) (σ : Hp) (x1 : Int) (x2 : Int) (r : Int) (h : f_MS_needs σ x1 x2 = some r) : Ev (d + 2) 69 [pvR 4 0 95, pvI x1, pvI x2] (true, n, e, σ) (0, some (pvI r), true, n, e, σ) := by
  unfold f_MS_needs at h
  refine Ev.of mtE69 rfl rfl rfl rfl ?_
  show Go none (Ev (d + 1)) mt69 0 [some (pvR 4 0 95), some (pvI x1), some (pvI x2)] [] (true, n, e, σ) (0, some (pvI r), true, n, e, σ)
  refine go_aload_n (pc' := 1) dX4_needs_0 rfl rfl (Nat.le_of_ble_eq_true rfl) ?_
  refine go_iload_n (pc' := 2) dX4_needs_1 rfl rfl ?_
  obtain ⟨v1, k2, h⟩ := bd h
  have k2 := l_MS_has (d + 0) n e σ x1 _ k2
  refine go_call (kc := 38) (Mc := mt38) (v := some (pvI v1)) (w' := (true, n, e, σ)) (pc' := 5) (st' := [pvI v1]) [pvR 4 0 95, pvI x1] [] (Or.inl rfl) dX4_needs_2 rfl rm_4_31 mtE38 rfl rfl rfl (Nat.le_of_ble_eq_true rfl) (Or.inr ⟨_, _, 95, rfl, Or.inl rfl⟩) k2 rfl ?_
  obtain ⟨j3, k4, h⟩ := bd h
  have k4J : Go none (Ev (d + 1)) mt69 35 [some (pvR 4 0 95), some (pvI x1), some (pvI x2)] [pvI j3] (true, n, e, σ) (0, some (pvI r), true, n, e, σ) := by
    obtain ⟨g10, h⟩ := gd h
    cases h
    exact go_zret dX4_needs_35 rfl g10 rfl
  clear h
  have h := k4
  refine go_if_eq (t := 34) (pc' := 8) dX4_needs_5 rfl rfl (fun c11 => ?_) (fun c11 => ?_)
  · rw [if_pos (show v1 = 0 from c11)] at h
    refine go_iconst (pc' := 35) dX4_needs_34 rfl (r32_c rfl) ?_
    cases h
    exact k4J
  · rw [if_neg (show ¬ (v1 = 0) from c11)] at h
    refine go_aload_n (pc' := 9) dX4_needs_8 rfl rfl (Nat.le_of_ble_eq_true rfl) ?_
    refine go_iload_n (pc' := 10) dX4_needs_9 rfl rfl ?_
    obtain ⟨v5, k6, h⟩ := bd h
    have k6 := l_MS_has (d + 0) n e σ x2 _ k6
    refine go_call (kc := 38) (Mc := mt38) (v := some (pvI v5)) (w' := (true, n, e, σ)) (pc' := 13) (st' := [pvI v5]) [pvR 4 0 95, pvI x2] [] (Or.inl rfl) dX4_needs_10 rfl rm_4_31 mtE38 rfl rfl rfl (Nat.le_of_ble_eq_true rfl) (Or.inr ⟨_, _, 95, rfl, Or.inl rfl⟩) k6 rfl ?_
    refine go_if_eq (t := 34) (pc' := 16) dX4_needs_13 rfl rfl (fun c9 => ?_) (fun c9 => ?_)
    · rw [if_pos (show v5 = 0 from c9)] at h
      refine go_iconst (pc' := 35) dX4_needs_34 rfl (r32_c rfl) ?_
      cases h
      exact k4J
    · rw [if_neg (show ¬ (v5 = 0) from c9)] at h
      refine go_aload_n (pc' := 17) dX4_needs_16 rfl rfl (Nat.le_of_ble_eq_true rfl) ?_
      refine go_getR (k' := 12) (L0 := 4) (P' := 99) (pc' := 20) dX4_needs_17 rfl rf_4_21 rfl rfl (by omega) ?_
      refine go_iload_n (pc' := 21) dX4_needs_20 rfl rfl ?_
      obtain ⟨g7, h⟩ := gd h
      refine go_iald (pc' := 22) dX4_needs_21 rfl g7 ?_
      refine go_iload_n (pc' := 23) dX4_needs_22 rfl rfl ?_
      refine go_ishr (pc' := 24) dX4_needs_23 rfl ?_
      refine go_iconst (pc' := 25) dX4_needs_24 rfl (r32_c rfl) ?_
      refine go_iand (pc' := 26) dX4_needs_25 rfl ?_
      refine go_iconst (pc' := 27) dX4_needs_26 rfl (r32_c rfl) ?_
      refine go_icmp_ne (t := 34) (pc' := 30) dX4_needs_27 rfl rfl (fun c8 => ?_) (fun c8 => ?_)
      · rw [if_pos (show (iand (ishr (σ 99 x1) x2) 1) ≠ 1 from c8)] at h
        refine go_iconst (pc' := 35) dX4_needs_34 rfl (r32_c rfl) ?_
        cases h
        exact k4J
      · rw [if_neg (show ¬ ((iand (ishr (σ 99 x1) x2) 1) ≠ 1) from c8)] at h
        refine go_iconst (pc' := 31) dX4_needs_30 rfl (r32_c rfl) ?_
        refine go_goto (t := 35) dX4_needs_31 rfl ?_
        cases h
        exact k4J

set_option maxRecDepth 10000 in
theorem l_D_orderOf (d : Nat) (n e : Nat) (σ : Hp) (p : Nat) (x1 : Int) (r : Int) (h : f_D_orderOf σ p x1 = some r) : Ev (d + 2) 72 [pvR 0 0 p, pvI x1] (true, n, e, σ) (0, some (pvI r), true, n, e, σ) := by
  unfold f_D_orderOf at h
  refine Ev.of mtE72 rfl rfl rfl rfl ?_
  show Go none (Ev (d + 1)) mt72 0 [some (pvR 0 0 p), some (pvI x1)] [] (true, n, e, σ) (0, some (pvI r), true, n, e, σ)
  refine go_aload_n (pc' := 1) dX0_orderOf_0 rfl rfl (Nat.le_of_ble_eq_true rfl) ?_
  refine go_iload_n (pc' := 2) dX0_orderOf_1 rfl rfl ?_
  obtain ⟨v1, k2, h⟩ := bd h
  have k2 := l_D_has (d + 0) n e σ p x1 _ k2
  refine go_call (kc := 16) (Mc := mt16) (v := some (pvI v1)) (w' := (true, n, e, σ)) (pc' := 5) (st' := [pvI v1]) [pvR 0 0 p, pvI x1] [] (Or.inl rfl) dX0_orderOf_2 rfl rm_0_65 mtE16 rfl rfl rfl (Nat.le_of_ble_eq_true rfl) (Or.inr ⟨_, _, p, rfl, Or.inl rfl⟩) k2 rfl ?_
  obtain ⟨j3, k4, h⟩ := bd h
  have k4J : Go none (Ev (d + 1)) mt72 28 [some (pvR 0 0 p), some (pvI x1)] [pvI j3] (true, n, e, σ) (0, some (pvI r), true, n, e, σ) := by
    cases h
    exact go_iret dX0_orderOf_28 rfl rfl
  clear h
  have h := k4
  refine go_if_eq (t := 27) (pc' := 8) dX0_orderOf_5 rfl rfl (fun c8 => ?_) (fun c8 => ?_)
  · rw [if_pos (show v1 = 0 from c8)] at h
    refine go_iconst (pc' := 28) dX0_orderOf_27 rfl (r32_c rfl) ?_
    cases h
    exact k4J
  · rw [if_neg (show ¬ (v1 = 0) from c8)] at h
    refine go_aload_n (pc' := 9) dX0_orderOf_8 rfl rfl (Nat.le_of_ble_eq_true rfl) ?_
    refine go_getR (k' := 12) (L0 := 12) (P' := (p + 5)) (pc' := 12) dX0_orderOf_9 rfl rf_0_22 rfl rfl (by omega) ?_
    refine go_iload_n (pc' := 13) dX0_orderOf_12 rfl rfl ?_
    obtain ⟨g5, h⟩ := gd h
    refine go_iald (pc' := 14) dX0_orderOf_13 rfl g5 ?_
    refine go_iconst (pc' := 15) dX0_orderOf_14 rfl (r32_c rfl) ?_
    refine go_icmp_ne (t := 27) (pc' := 18) dX0_orderOf_15 rfl rfl (fun c7 => ?_) (fun c7 => ?_)
    · rw [if_pos (show (σ (p + 5) x1) ≠ 2 from c7)] at h
      refine go_iconst (pc' := 28) dX0_orderOf_27 rfl (r32_c rfl) ?_
      cases h
      exact k4J
    · rw [if_neg (show ¬ ((σ (p + 5) x1) ≠ 2) from c7)] at h
      refine go_aload_n (pc' := 19) dX0_orderOf_18 rfl rfl (Nat.le_of_ble_eq_true rfl) ?_
      refine go_getR (k' := 12) (L0 := 12) (P' := (p + 9)) (pc' := 22) dX0_orderOf_19 rfl rf_0_35 rfl rfl (by omega) ?_
      refine go_iload_n (pc' := 23) dX0_orderOf_22 rfl rfl ?_
      obtain ⟨g6, h⟩ := gd h
      refine go_iald (pc' := 24) dX0_orderOf_23 rfl g6 ?_
      refine go_goto (t := 28) dX0_orderOf_24 rfl ?_
      cases h
      exact k4J

set_option maxRecDepth 10000 in
theorem l_S_leading_7 (d : Nat) (n : Nat) (e : Nat) (σ : Hp) (x1 : Int) {out : Out} : ∀ (F : Nat) (y1 : Int) (y2 : Int) (y3 : Int) (j16 : Int × Int × Int), f_S_leading_7 σ x1 F y1 y2 y3 = some j16 → Go none (Ev (d + 2)) mt71 54 [some (pvR 7 0 1), some (pvI x1), some (pvI j16.1), some (pvI j16.2.1), some (pvI j16.2.2), none] [] (true, n, e, σ) out → Go none (Ev (d + 2)) mt71 7 [some (pvR 7 0 1), some (pvI x1), some (pvI y1), some (pvI y2), some (pvI y3), none] [] (true, n, e, σ) out := by
  intro F
  induction F with
  | zero =>
    intro _ _ _ _ h
    intro _
    rw [f_S_leading_7] at h
    cases h
  | succ F ih =>
    intro y1 y2 y3 j16 h hx
    rw [f_S_leading_7] at h
    refine go_iload (pc' := 9) dX7_leading_7 rfl rfl ?_
    refine go_iconst (pc' := 10) dX7_leading_9 rfl (r32_c rfl) ?_
    refine go_icmp_ge (t := 54) (pc' := 13) dX7_leading_10 rfl rfl (fun c15 => ?_) (fun c15 => ?_)
    · rw [if_pos (show 3 ≤ y3 from c15)] at h
      cases h
      exact hx
    · rw [if_neg (show ¬ (3 ≤ y3) from c15)] at h
      refine go_aload_n (pc' := 14) dX7_leading_13 rfl rfl (Nat.le_of_ble_eq_true rfl) ?_
      refine go_iload (pc' := 16) dX7_leading_14 rfl rfl ?_
      obtain ⟨v4, k5, h⟩ := bd h
      have k5 := l_S_dimension (d + 1) n e σ y3 _ k5
      refine go_call (kc := 14) (Mc := mt14) (v := some (pvR 0 0 v4)) (w' := (true, n, e, σ)) (pc' := 19) (st' := [pvR 0 0 v4]) [pvR 7 0 1, pvI y3] [] (Or.inl rfl) dX7_leading_16 rfl rm_7_60 mtE14 rfl rfl rfl (Nat.le_of_ble_eq_true rfl) (Or.inr ⟨_, _, 1, rfl, Or.inl rfl⟩) k5 rfl ?_
      refine go_iload_n (pc' := 20) dX7_leading_19 rfl rfl ?_
      refine go_iload (pc' := 22) dX7_leading_20 rfl rfl ?_
      obtain ⟨v6, k7, h⟩ := bd h
      have k7 := l_C_memberOf (d + 1) n e σ x1 y3 _ k7
      refine go_call (kc := 61) (Mc := mt61) (v := some (pvI v6)) (w' := (true, n, e, σ)) (pc' := 25) (st' := [pvI v6, pvR 0 0 v4]) [pvI x1, pvI y3] [pvR 0 0 v4] (Or.inr (Or.inr (Or.inr (Or.inl rfl)))) dX7_leading_22 rfl rm_7_45 mtE61 rfl rfl rfl (Nat.le_of_ble_eq_true rfl) (Or.inl (by decide)) k7 rfl ?_
      obtain ⟨v8, k9, h⟩ := bd h
      have k9 := l_D_orderOf (d + 0) n e σ v4 v6 _ k9
      refine go_call (kc := 72) (Mc := mt72) (v := some (pvI v8)) (w' := (true, n, e, σ)) (pc' := 28) (st' := [pvI v8]) [pvR 0 0 v4, pvI v6] [] (Or.inl rfl) dX7_leading_25 rfl rm_7_64 mtE72 rfl rfl rfl (Nat.le_of_ble_eq_true rfl) (Or.inr ⟨_, _, v4, rfl, Or.inl rfl⟩) k9 rfl ?_
      refine go_istore (L' := [some (pvR 7 0 1), some (pvI x1), some (pvI y1), some (pvI y2), some (pvI y3), some (pvI v8)]) (pc' := 30) dX7_leading_28 rfl (Nat.le_of_ble_eq_true rfl) rfl ?_
      refine go_iload (pc' := 32) dX7_leading_30 rfl rfl ?_
      refine go_iconst (pc' := 33) dX7_leading_32 rfl (r32_c rfl) ?_
      obtain ⟨j10, k11, h⟩ := bd h
      have k11J : Go none (Ev (d + 2)) mt71 48 [some (pvR 7 0 1), some (pvI x1), some (pvI j10.1), some (pvI j10.2), some (pvI y3), some (pvI v8)] [] (true, n, e, σ) out := by
        obtain ⟨g13, h⟩ := gd h
        refine go_iinc (L' := [some (pvR 7 0 1), some (pvI x1), some (pvI j10.1), some (pvI j10.2), some (pvI (y3 + 1)), some (pvI v8)]) (pc' := 51) dX7_leading_48 rfl rfl g13 rfl ?_
        refine go_goto (t := 7) dX7_leading_51 rfl ?_
        exact go_sub (ih j10.1 j10.2 (y3 + 1) _ h hx) ⟨Or.inr rfl, Or.inr rfl, Or.inr rfl, Or.inr rfl, Or.inr rfl, Or.inl rfl, trivial⟩
      clear h
      have h := k11
      refine go_icmp_eq (t := 48) (pc' := 36) dX7_leading_33 rfl rfl (fun c14 => ?_) (fun c14 => ?_)
      · rw [if_pos (show v8 = (-1) from c14)] at h
        cases h
        exact k11J
      · rw [if_neg (show ¬ (v8 = (-1)) from c14)] at h
        refine go_iload (pc' := 38) dX7_leading_36 rfl rfl ?_
        refine go_iload_n (pc' := 39) dX7_leading_38 rfl rfl ?_
        refine go_icmp_lt (t := 48) (pc' := 42) dX7_leading_39 rfl rfl (fun c12 => ?_) (fun c12 => ?_)
        · rw [if_pos (show v8 < y2 from c12)] at h
          cases h
          exact k11J
        · rw [if_neg (show ¬ (v8 < y2) from c12)] at h
          refine go_iload (pc' := 44) dX7_leading_42 rfl rfl ?_
          refine go_istore_n (L' := [some (pvR 7 0 1), some (pvI x1), some (pvI y1), some (pvI v8), some (pvI y3), some (pvI v8)]) (pc' := 45) dX7_leading_44 rfl (Nat.le_of_ble_eq_true rfl) rfl ?_
          refine go_iload (pc' := 47) dX7_leading_45 rfl rfl ?_
          refine go_istore_n (L' := [some (pvR 7 0 1), some (pvI x1), some (pvI y3), some (pvI v8), some (pvI y3), some (pvI v8)]) (pc' := 48) dX7_leading_47 rfl (Nat.le_of_ble_eq_true rfl) rfl ?_
          cases h
          exact k11J

set_option maxRecDepth 10000 in
theorem l_S_leading (d : Nat) (n e : Nat) (σ : Hp) (x1 : Int) (r : Int) (h : f_S_leading σ x1 = some r) : Ev (d + 3) 71 [pvR 7 0 1, pvI x1] (true, n, e, σ) (0, some (pvI r), true, n, e, σ) := by
  unfold f_S_leading at h
  refine Ev.of mtE71 rfl rfl rfl rfl ?_
  show Go none (Ev (d + 2)) mt71 0 [some (pvR 7 0 1), some (pvI x1), none, none, none, none] [] (true, n, e, σ) (0, some (pvI r), true, n, e, σ)
  refine go_iconst (pc' := 1) dX7_leading_0 rfl (r32_c rfl) ?_
  refine go_istore_n (L' := [some (pvR 7 0 1), some (pvI x1), some (pvI (-1)), none, none, none]) (pc' := 2) dX7_leading_1 rfl (Nat.le_of_ble_eq_true rfl) rfl ?_
  refine go_iconst (pc' := 3) dX7_leading_2 rfl (r32_c rfl) ?_
  refine go_istore_n (L' := [some (pvR 7 0 1), some (pvI x1), some (pvI (-1)), some (pvI (-1)), none, none]) (pc' := 4) dX7_leading_3 rfl (Nat.le_of_ble_eq_true rfl) rfl ?_
  refine go_iconst (pc' := 5) dX7_leading_4 rfl (r32_c rfl) ?_
  refine go_istore (L' := [some (pvR 7 0 1), some (pvI x1), some (pvI (-1)), some (pvI (-1)), some (pvI 0), none]) (pc' := 7) dX7_leading_5 rfl (Nat.le_of_ble_eq_true rfl) rfl ?_
  obtain ⟨j17, k18, h⟩ := bd h
  refine l_S_leading_7 d n e σ x1 zFuel (-1) (-1) 0 _ k18 ?_
  refine go_iload_n (pc' := 55) dX7_leading_54 rfl rfl ?_
  cases h
  exact go_iret dX7_leading_55 rfl rfl

set_option maxRecDepth 10000 in
theorem l_S_isCalculated (d : Nat) (n e : Nat) (σ : Hp) (x1 : Int) (r : Int) (h : f_S_isCalculated σ x1 = some r) : Ev (d + 4) 70 [pvR 7 0 1, pvI x1] (true, n, e, σ) (0, some (pvI r), true, n, e, σ) := by
  unfold f_S_isCalculated at h
  refine Ev.of mtE70 rfl rfl rfl rfl ?_
  show Go none (Ev (d + 3)) mt70 0 [some (pvR 7 0 1), some (pvI x1)] [] (true, n, e, σ) (0, some (pvI r), true, n, e, σ)
  refine go_aload_n (pc' := 1) dX7_isCalculated_0 rfl rfl (Nat.le_of_ble_eq_true rfl) ?_
  refine go_iload_n (pc' := 2) dX7_isCalculated_1 rfl rfl ?_
  obtain ⟨v1, k2, h⟩ := bd h
  have k2 := l_S_leading (d + 0) n e σ x1 _ k2
  refine go_call (kc := 71) (Mc := mt71) (v := some (pvI v1)) (w' := (true, n, e, σ)) (pc' := 5) (st' := [pvI v1]) [pvR 7 0 1, pvI x1] [] (Or.inl rfl) dX7_isCalculated_2 rfl rm_7_56 mtE71 rfl rfl rfl (Nat.le_of_ble_eq_true rfl) (Or.inr ⟨_, _, 1, rfl, Or.inl rfl⟩) k2 rfl ?_
  refine go_iconst (pc' := 6) dX7_isCalculated_5 rfl (r32_c rfl) ?_
  obtain ⟨j3, k4, h⟩ := bd h
  have k4J : Go none (Ev (d + 3)) mt70 14 [some (pvR 7 0 1), some (pvI x1)] [pvI j3] (true, n, e, σ) (0, some (pvI r), true, n, e, σ) := by
    obtain ⟨g5, h⟩ := gd h
    cases h
    exact go_zret dX7_isCalculated_14 rfl g5 rfl
  clear h
  have h := k4
  refine go_icmp_eq (t := 13) (pc' := 9) dX7_isCalculated_6 rfl rfl (fun c6 => ?_) (fun c6 => ?_)
  · rw [if_pos (show v1 = (-1) from c6)] at h
    refine go_iconst (pc' := 14) dX7_isCalculated_13 rfl (r32_c rfl) ?_
    cases h
    exact k4J
  · rw [if_neg (show ¬ (v1 = (-1)) from c6)] at h
    refine go_iconst (pc' := 10) dX7_isCalculated_9 rfl (r32_c rfl) ?_
    refine go_goto (t := 14) dX7_isCalculated_10 rfl ?_
    cases h
    exact k4J

set_option maxRecDepth 10000 in
theorem l_S_isSeen (d : Nat) (n e : Nat) (σ : Hp) (x1 : Int) (r : Int) (h : f_S_isSeen σ x1 = some r) : Ev (d + 2) 74 [pvR 7 0 1, pvI x1] (true, n, e, σ) (0, some (pvI r), true, n, e, σ) := by
  unfold f_S_isSeen at h
  refine Ev.of mtE74 rfl rfl rfl rfl ?_
  show Go none (Ev (d + 1)) mt74 0 [some (pvR 7 0 1), some (pvI x1)] [] (true, n, e, σ) (0, some (pvI r), true, n, e, σ)
  refine go_aload_n (pc' := 1) dX7_isSeen_0 rfl rfl (Nat.le_of_ble_eq_true rfl) ?_
  refine go_getR (k' := 0) (L0 := 0) (P' := 2) (pc' := 4) dX7_isSeen_1 rfl rf_7_12 rfl rfl (by omega) ?_
  refine go_iload_n (pc' := 5) dX7_isSeen_4 rfl rfl ?_
  refine go_iconst (pc' := 6) dX7_isSeen_5 rfl (r32_c rfl) ?_
  obtain ⟨v1, k2, h⟩ := bd h
  have k2 := l_C_memberOf (d + 0) n e σ x1 0 _ k2
  refine go_call (kc := 61) (Mc := mt61) (v := some (pvI v1)) (w' := (true, n, e, σ)) (pc' := 9) (st' := [pvI v1, pvR 0 0 2]) [pvI x1, pvI 0] [pvR 0 0 2] (Or.inr (Or.inr (Or.inr (Or.inl rfl)))) dX7_isSeen_6 rfl rm_7_45 mtE61 rfl rfl rfl (Nat.le_of_ble_eq_true rfl) (Or.inl (by decide)) k2 rfl ?_
  obtain ⟨v3, k4, h⟩ := bd h
  have k4 := l_D_isSeen (d + 0) n e σ 2 v1 _ k4
  refine go_call (kc := 29) (Mc := mt29) (v := some (pvI v3)) (w' := (true, n, e, σ)) (pc' := 12) (st' := [pvI v3]) [pvR 0 0 2, pvI v1] [] (Or.inl rfl) dX7_isSeen_9 rfl rm_7_53 mtE29 rfl rfl rfl (Nat.le_of_ble_eq_true rfl) (Or.inr ⟨_, _, 2, rfl, Or.inl rfl⟩) k4 rfl ?_
  obtain ⟨j5, k6, h⟩ := bd h
  have k6J : Go none (Ev (d + 1)) mt74 50 [some (pvR 7 0 1), some (pvI x1)] [pvI j5] (true, n, e, σ) (0, some (pvI r), true, n, e, σ) := by
    obtain ⟨g17, h⟩ := gd h
    cases h
    exact go_zret dX7_isSeen_50 rfl g17 rfl
  clear h
  have h := k6
  refine go_if_eq (t := 49) (pc' := 15) dX7_isSeen_12 rfl rfl (fun c18 => ?_) (fun c18 => ?_)
  · rw [if_pos (show v3 = 0 from c18)] at h
    refine go_iconst (pc' := 50) dX7_isSeen_49 rfl (r32_c rfl) ?_
    cases h
    exact k6J
  · rw [if_neg (show ¬ (v3 = 0) from c18)] at h
    refine go_aload_n (pc' := 16) dX7_isSeen_15 rfl rfl (Nat.le_of_ble_eq_true rfl) ?_
    refine go_getR (k' := 0) (L0 := 0) (P' := 32) (pc' := 19) dX7_isSeen_16 rfl rf_7_18 rfl rfl (by omega) ?_
    refine go_iload_n (pc' := 20) dX7_isSeen_19 rfl rfl ?_
    refine go_iconst (pc' := 21) dX7_isSeen_20 rfl (r32_c rfl) ?_
    obtain ⟨v7, k8, h⟩ := bd h
    have k8 := l_C_memberOf (d + 0) n e σ x1 1 _ k8
    refine go_call (kc := 61) (Mc := mt61) (v := some (pvI v7)) (w' := (true, n, e, σ)) (pc' := 24) (st' := [pvI v7, pvR 0 0 32]) [pvI x1, pvI 1] [pvR 0 0 32] (Or.inr (Or.inr (Or.inr (Or.inl rfl)))) dX7_isSeen_21 rfl rm_7_45 mtE61 rfl rfl rfl (Nat.le_of_ble_eq_true rfl) (Or.inl (by decide)) k8 rfl ?_
    obtain ⟨v9, k10, h⟩ := bd h
    have k10 := l_D_isSeen (d + 0) n e σ 32 v7 _ k10
    refine go_call (kc := 29) (Mc := mt29) (v := some (pvI v9)) (w' := (true, n, e, σ)) (pc' := 27) (st' := [pvI v9]) [pvR 0 0 32, pvI v7] [] (Or.inl rfl) dX7_isSeen_24 rfl rm_7_53 mtE29 rfl rfl rfl (Nat.le_of_ble_eq_true rfl) (Or.inr ⟨_, _, 32, rfl, Or.inl rfl⟩) k10 rfl ?_
    refine go_if_eq (t := 49) (pc' := 30) dX7_isSeen_27 rfl rfl (fun c16 => ?_) (fun c16 => ?_)
    · rw [if_pos (show v9 = 0 from c16)] at h
      refine go_iconst (pc' := 50) dX7_isSeen_49 rfl (r32_c rfl) ?_
      cases h
      exact k6J
    · rw [if_neg (show ¬ (v9 = 0) from c16)] at h
      refine go_aload_n (pc' := 31) dX7_isSeen_30 rfl rfl (Nat.le_of_ble_eq_true rfl) ?_
      refine go_getR (k' := 0) (L0 := 0) (P' := 62) (pc' := 34) dX7_isSeen_31 rfl rf_7_21 rfl rfl (by omega) ?_
      refine go_iload_n (pc' := 35) dX7_isSeen_34 rfl rfl ?_
      refine go_iconst (pc' := 36) dX7_isSeen_35 rfl (r32_c rfl) ?_
      obtain ⟨v11, k12, h⟩ := bd h
      have k12 := l_C_memberOf (d + 0) n e σ x1 2 _ k12
      refine go_call (kc := 61) (Mc := mt61) (v := some (pvI v11)) (w' := (true, n, e, σ)) (pc' := 39) (st' := [pvI v11, pvR 0 0 62]) [pvI x1, pvI 2] [pvR 0 0 62] (Or.inr (Or.inr (Or.inr (Or.inl rfl)))) dX7_isSeen_36 rfl rm_7_45 mtE61 rfl rfl rfl (Nat.le_of_ble_eq_true rfl) (Or.inl (by decide)) k12 rfl ?_
      obtain ⟨v13, k14, h⟩ := bd h
      have k14 := l_D_isSeen (d + 0) n e σ 62 v11 _ k14
      refine go_call (kc := 29) (Mc := mt29) (v := some (pvI v13)) (w' := (true, n, e, σ)) (pc' := 42) (st' := [pvI v13]) [pvR 0 0 62, pvI v11] [] (Or.inl rfl) dX7_isSeen_39 rfl rm_7_53 mtE29 rfl rfl rfl (Nat.le_of_ble_eq_true rfl) (Or.inr ⟨_, _, 62, rfl, Or.inl rfl⟩) k14 rfl ?_
      refine go_if_eq (t := 49) (pc' := 45) dX7_isSeen_42 rfl rfl (fun c15 => ?_) (fun c15 => ?_)
      · rw [if_pos (show v13 = 0 from c15)] at h
        refine go_iconst (pc' := 50) dX7_isSeen_49 rfl (r32_c rfl) ?_
        cases h
        exact k6J
      · rw [if_neg (show ¬ (v13 = 0) from c15)] at h
        refine go_iconst (pc' := 46) dX7_isSeen_45 rfl (r32_c rfl) ?_
        refine go_goto (t := 50) dX7_isSeen_46 rfl ?_
        cases h
        exact k6J

set_option maxRecDepth 10000 in
theorem l_D_weight (d : Nat) (n e : Nat) (σ : Hp) (p : Nat) (x1 : Int) (x2 : Int) (x3 : Int) (r : Int) (h : f_D_weight σ p x1 x2 x3 = some r) : Ev (d + 1) 75 [pvR 0 0 p, pvI x1, pvI x2, pvI x3] (true, n, e, σ) (0, some (pvI r), true, n, e, σ) := by
  unfold f_D_weight at h
  refine Ev.of mtE75 rfl rfl rfl rfl ?_
  show Go none (Ev (d + 0)) mt75 0 [some (pvR 0 0 p), some (pvI x1), some (pvI x2), some (pvI x3), none] [] (true, n, e, σ) (0, some (pvI r), true, n, e, σ)
  refine go_iload_n (pc' := 1) dX0_weight_0 rfl rfl ?_
  refine go_if_lt (t := 34) (pc' := 4) dX0_weight_1 rfl rfl (fun c13 => ?_) (fun c13 => ?_)
  · rw [if_pos (show x1 < 0 from c13)] at h
    refine go_iconst (pc' := 35) dX0_weight_34 rfl (r32_c rfl) ?_
    cases h
    exact go_iret dX0_weight_35 rfl rfl
  · rw [if_neg (show ¬ (x1 < 0) from c13)] at h
    refine go_iload_n (pc' := 5) dX0_weight_4 rfl rfl ?_
    refine go_bipush (pc' := 7) dX0_weight_5 rfl (r32_c rfl) (by decide) ?_
    refine go_icmp_gt (t := 34) (pc' := 10) dX0_weight_7 rfl rfl (fun c12 => ?_) (fun c12 => ?_)
    · rw [if_pos (show 12 < x1 from c12)] at h
      refine go_iconst (pc' := 35) dX0_weight_34 rfl (r32_c rfl) ?_
      cases h
      exact go_iret dX0_weight_35 rfl rfl
    · rw [if_neg (show ¬ (12 < x1) from c12)] at h
      refine go_iload_n (pc' := 11) dX0_weight_10 rfl rfl ?_
      refine go_if_lt (t := 34) (pc' := 14) dX0_weight_11 rfl rfl (fun c11 => ?_) (fun c11 => ?_)
      · rw [if_pos (show x2 < 0 from c11)] at h
        refine go_iconst (pc' := 35) dX0_weight_34 rfl (r32_c rfl) ?_
        cases h
        exact go_iret dX0_weight_35 rfl rfl
      · rw [if_neg (show ¬ (x2 < 0) from c11)] at h
        refine go_iload_n (pc' := 15) dX0_weight_14 rfl rfl ?_
        refine go_aload_n (pc' := 16) dX0_weight_15 rfl rfl (Nat.le_of_ble_eq_true rfl) ?_
        refine go_getI (pc' := 19) dX0_weight_16 rfl rf_0_9 rfl ?_
        refine go_icmp_ge (t := 34) (pc' := 22) dX0_weight_19 rfl rfl (fun c10 => ?_) (fun c10 => ?_)
        · rw [if_pos (show (σ p 0) ≤ x2 from c10)] at h
          refine go_iconst (pc' := 35) dX0_weight_34 rfl (r32_c rfl) ?_
          cases h
          exact go_iret dX0_weight_35 rfl rfl
        · rw [if_neg (show ¬ ((σ p 0) ≤ x2) from c10)] at h
          refine go_iload_n (pc' := 23) dX0_weight_22 rfl rfl ?_
          refine go_if_lt (t := 34) (pc' := 26) dX0_weight_23 rfl rfl (fun c9 => ?_) (fun c9 => ?_)
          · rw [if_pos (show x3 < 0 from c9)] at h
            refine go_iconst (pc' := 35) dX0_weight_34 rfl (r32_c rfl) ?_
            cases h
            exact go_iret dX0_weight_35 rfl rfl
          · rw [if_neg (show ¬ (x3 < 0) from c9)] at h
            refine go_iload_n (pc' := 27) dX0_weight_26 rfl rfl ?_
            refine go_aload_n (pc' := 28) dX0_weight_27 rfl rfl (Nat.le_of_ble_eq_true rfl) ?_
            refine go_getI (pc' := 31) dX0_weight_28 rfl rf_0_9 rfl ?_
            refine go_icmp_lt (t := 36) (pc' := 34) dX0_weight_31 rfl rfl (fun c8 => ?_) (fun c8 => ?_)
            · rw [if_pos (show x3 < (σ p 0) from c8)] at h
              refine go_aload_n (pc' := 37) dX0_weight_36 rfl rfl (Nat.le_of_ble_eq_true rfl) ?_
              refine go_getR (k' := 16) (L0 := 13) (P' := (p + 16)) (pc' := 40) dX0_weight_37 rfl rf_0_62 rfl rfl (by omega) ?_
              refine go_iload_n (pc' := 41) dX0_weight_40 rfl rfl ?_
              obtain ⟨g1, h⟩ := gd h
              refine go_rald (pc' := 42) dX0_weight_41 rfl g1 ?_
              refine go_iload_n (pc' := 43) dX0_weight_42 rfl rfl ?_
              refine go_bipush (pc' := 45) dX0_weight_43 rfl (r32_c rfl) (by decide) ?_
              obtain ⟨g2, h⟩ := gd h
              refine go_imul (pc' := 46) dX0_weight_45 rfl g2 ?_
              refine go_iload_n (pc' := 47) dX0_weight_46 rfl rfl ?_
              obtain ⟨g3, h⟩ := gd h
              refine go_iadd (pc' := 48) dX0_weight_47 rfl g3 ?_
              obtain ⟨g4, h⟩ := gd h
              refine go_iald (pc' := 49) dX0_weight_48 rfl g4 ?_
              refine go_istore (L' := [some (pvR 0 0 p), some (pvI x1), some (pvI x2), some (pvI x3), some (pvI (σ ((p + 16) + 1 + Int.toNat x1) ((x2 * 12) + x3)))]) (pc' := 51) dX0_weight_49 rfl (Nat.le_of_ble_eq_true rfl) rfl ?_
              refine go_iload (pc' := 53) dX0_weight_51 rfl rfl ?_
              refine go_iconst (pc' := 54) dX0_weight_53 rfl (r32_c rfl) ?_
              obtain ⟨j5, k6, h⟩ := bd h
              have k6J : Go none (Ev (d + 0)) mt75 63 [some (pvR 0 0 p), some (pvI x1), some (pvI x2), some (pvI x3), some (pvI (σ ((p + 16) + 1 + Int.toNat x1) ((x2 * 12) + x3)))] [pvI j5] (true, n, e, σ) (0, some (pvI r), true, n, e, σ) := by
                cases h
                exact go_iret dX0_weight_63 rfl rfl
              clear h
              have h := k6
              refine go_icmp_ne (t := 61) (pc' := 57) dX0_weight_54 rfl rfl (fun c7 => ?_) (fun c7 => ?_)
              · rw [if_pos (show (σ ((p + 16) + 1 + Int.toNat x1) ((x2 * 12) + x3)) ≠ 2 from c7)] at h
                refine go_iload (pc' := 63) dX0_weight_61 rfl rfl ?_
                cases h
                exact k6J
              · rw [if_neg (show ¬ ((σ ((p + 16) + 1 + Int.toNat x1) ((x2 * 12) + x3)) ≠ 2) from c7)] at h
                refine go_iconst (pc' := 58) dX0_weight_57 rfl (r32_c rfl) ?_
                refine go_goto (t := 63) dX0_weight_58 rfl ?_
                cases h
                exact k6J
            · rw [if_neg (show ¬ (x3 < (σ p 0)) from c8)] at h
              refine go_iconst (pc' := 35) dX0_weight_34 rfl (r32_c rfl) ?_
              cases h
              exact go_iret dX0_weight_35 rfl rfl

set_option maxRecDepth 10000 in
theorem l_S_weight (d : Nat) (n e : Nat) (σ : Hp) (x1 : Int) (x2 : Int) (r : Int) (h : f_S_weight σ x1 x2 = some r) : Ev (d + 3) 73 [pvR 7 0 1, pvI x1, pvI x2] (true, n, e, σ) (0, some (pvI r), true, n, e, σ) := by
  unfold f_S_weight at h
  refine Ev.of mtE73 rfl rfl rfl rfl ?_
  show Go none (Ev (d + 2)) mt73 0 [some (pvR 7 0 1), some (pvI x1), some (pvI x2), none, none, none] [] (true, n, e, σ) (0, some (pvI r), true, n, e, σ)
  refine go_aload_n (pc' := 1) dX7_weight_0 rfl rfl (Nat.le_of_ble_eq_true rfl) ?_
  refine go_getZ (pc' := 4) dX7_weight_1 rfl rf_7_70 rfl ?_
  refine go_if_eq (t := 17) (pc' := 7) dX7_weight_4 rfl rfl (fun c62 => ?_) (fun c62 => ?_)
  · rw [if_pos (show (σ 1 5) = 0 from c62)] at h
    refine go_iload_n (pc' := 18) dX7_weight_17 rfl rfl ?_
    refine go_iconst (pc' := 19) dX7_weight_18 rfl (r32_c rfl) ?_
    obtain ⟨v1, k2, h⟩ := bd h
    have k2 := l_C_memberOf (d + 1) n e σ x1 0 _ k2
    refine go_call (kc := 61) (Mc := mt61) (v := some (pvI v1)) (w' := (true, n, e, σ)) (pc' := 22) (st' := [pvI v1]) [pvI x1, pvI 0] [] (Or.inr (Or.inr (Or.inr (Or.inl rfl)))) dX7_weight_19 rfl rm_7_45 mtE61 rfl rfl rfl (Nat.le_of_ble_eq_true rfl) (Or.inl (by decide)) k2 rfl ?_
    refine go_istore_n (L' := [some (pvR 7 0 1), some (pvI x1), some (pvI x2), some (pvI v1), none, none]) (pc' := 23) dX7_weight_22 rfl (Nat.le_of_ble_eq_true rfl) rfl ?_
    refine go_aload_n (pc' := 24) dX7_weight_23 rfl rfl (Nat.le_of_ble_eq_true rfl) ?_
    refine go_getZ (pc' := 27) dX7_weight_24 rfl rf_7_75 rfl ?_
    obtain ⟨j3, k4, h⟩ := bd h
    have k4J : Go none (Ev (d + 2)) mt73 36 [some (pvR 7 0 1), some (pvI x1), some (pvI x2), some (pvI v1), none, none] [pvI j3] (true, n, e, σ) (0, some (pvI r), true, n, e, σ) := by
      refine go_istore (L' := [some (pvR 7 0 1), some (pvI x1), some (pvI x2), some (pvI v1), some (pvI j3), none]) (pc' := 38) dX7_weight_36 rfl (Nat.le_of_ble_eq_true rfl) rfl ?_
      refine go_aload_n (pc' := 39) dX7_weight_38 rfl rfl (Nat.le_of_ble_eq_true rfl) ?_
      refine go_getR (k' := 0) (L0 := 0) (P' := 2) (pc' := 42) dX7_weight_39 rfl rf_7_12 rfl rfl (by omega) ?_
      refine go_iload (pc' := 44) dX7_weight_42 rfl rfl ?_
      refine go_iload_n (pc' := 45) dX7_weight_44 rfl rfl ?_
      refine go_iload_n (pc' := 46) dX7_weight_45 rfl rfl ?_
      refine go_iconst (pc' := 47) dX7_weight_46 rfl (r32_c rfl) ?_
      obtain ⟨v5, k6, h⟩ := bd h
      have k6 := l_C_memberOf (d + 1) n e σ x2 0 _ k6
      refine go_call (kc := 61) (Mc := mt61) (v := some (pvI v5)) (w' := (true, n, e, σ)) (pc' := 50) (st' := [pvI v5, pvI v1, pvI j3, pvR 0 0 2]) [pvI x2, pvI 0] [pvI v1, pvI j3, pvR 0 0 2] (Or.inr (Or.inr (Or.inr (Or.inl rfl)))) dX7_weight_47 rfl rm_7_45 mtE61 rfl rfl rfl (Nat.le_of_ble_eq_true rfl) (Or.inl (by decide)) k6 rfl ?_
      obtain ⟨v7, k8, h⟩ := bd h
      have k8 := l_D_weight (d + 1) n e σ 2 j3 v1 v5 _ k8
      refine go_call (kc := 75) (Mc := mt75) (v := some (pvI v7)) (w' := (true, n, e, σ)) (pc' := 53) (st' := [pvI v7]) [pvR 0 0 2, pvI j3, pvI v1, pvI v5] [] (Or.inl rfl) dX7_weight_50 rfl rm_7_78 mtE75 rfl rfl rfl (Nat.le_of_ble_eq_true rfl) (Or.inr ⟨_, _, 2, rfl, Or.inl rfl⟩) k8 rfl ?_
      refine go_istore (L' := [some (pvR 7 0 1), some (pvI x1), some (pvI x2), some (pvI v1), some (pvI j3), some (pvI v7)]) (pc' := 55) dX7_weight_53 rfl (Nat.le_of_ble_eq_true rfl) rfl ?_
      refine go_iload (pc' := 57) dX7_weight_55 rfl rfl ?_
      obtain ⟨j9, k10, h⟩ := bd h
      have k10J : Go none (Ev (d + 2)) mt73 84 [some (pvR 7 0 1), some (pvI x1), some (pvI x2), some (pvI v1), some (pvI j3), some (pvI j9)] [] (true, n, e, σ) (0, some (pvI r), true, n, e, σ) := by
        refine go_iload (pc' := 86) dX7_weight_84 rfl rfl ?_
        obtain ⟨j18, k19, h⟩ := bd h
        have k19J : Go none (Ev (d + 2)) mt73 113 [some (pvR 7 0 1), some (pvI x1), some (pvI x2), some (pvI v1), some (pvI j3), some (pvI j18)] [] (true, n, e, σ) (0, some (pvI r), true, n, e, σ) := by
          refine go_iload (pc' := 115) dX7_weight_113 rfl rfl ?_
          cases h
          exact go_iret dX7_weight_115 rfl rfl
        clear h
        have h := k19
        refine go_if_eq (t := 113) (pc' := 89) dX7_weight_86 rfl rfl (fun c27 => ?_) (fun c27 => ?_)
        · rw [if_pos (show j9 = 0 from c27)] at h
          cases h
          exact k19J
        · rw [if_neg (show ¬ (j9 = 0) from c27)] at h
          refine go_iload (pc' := 91) dX7_weight_89 rfl rfl ?_
          refine go_aload_n (pc' := 92) dX7_weight_91 rfl rfl (Nat.le_of_ble_eq_true rfl) ?_
          refine go_getR (k' := 0) (L0 := 0) (P' := 62) (pc' := 95) dX7_weight_92 rfl rf_7_21 rfl rfl (by omega) ?_
          refine go_iload (pc' := 97) dX7_weight_95 rfl rfl ?_
          refine go_iload_n (pc' := 98) dX7_weight_97 rfl rfl ?_
          refine go_iconst (pc' := 99) dX7_weight_98 rfl (r32_c rfl) ?_
          obtain ⟨v20, k21, h⟩ := bd h
          have k21 := l_C_memberOf (d + 1) n e σ x1 2 _ k21
          refine go_call (kc := 61) (Mc := mt61) (v := some (pvI v20)) (w' := (true, n, e, σ)) (pc' := 102) (st' := [pvI v20, pvI j3, pvR 0 0 62, pvI j9]) [pvI x1, pvI 2] [pvI j3, pvR 0 0 62, pvI j9] (Or.inr (Or.inr (Or.inr (Or.inl rfl)))) dX7_weight_99 rfl rm_7_45 mtE61 rfl rfl rfl (Nat.le_of_ble_eq_true rfl) (Or.inl (by decide)) k21 rfl ?_
          refine go_iload_n (pc' := 103) dX7_weight_102 rfl rfl ?_
          refine go_iconst (pc' := 104) dX7_weight_103 rfl (r32_c rfl) ?_
          obtain ⟨v22, k23, h⟩ := bd h
          have k23 := l_C_memberOf (d + 1) n e σ x2 2 _ k23
          refine go_call (kc := 61) (Mc := mt61) (v := some (pvI v22)) (w' := (true, n, e, σ)) (pc' := 107) (st' := [pvI v22, pvI v20, pvI j3, pvR 0 0 62, pvI j9]) [pvI x2, pvI 2] [pvI v20, pvI j3, pvR 0 0 62, pvI j9] (Or.inr (Or.inr (Or.inr (Or.inl rfl)))) dX7_weight_104 rfl rm_7_45 mtE61 rfl rfl rfl (Nat.le_of_ble_eq_true rfl) (Or.inl (by decide)) k23 rfl ?_
          obtain ⟨v24, k25, h⟩ := bd h
          have k25 := l_D_weight (d + 1) n e σ 62 j3 v20 v22 _ k25
          refine go_call (kc := 75) (Mc := mt75) (v := some (pvI v24)) (w' := (true, n, e, σ)) (pc' := 110) (st' := [pvI v24, pvI j9]) [pvR 0 0 62, pvI j3, pvI v20, pvI v22] [pvI j9] (Or.inl rfl) dX7_weight_107 rfl rm_7_78 mtE75 rfl rfl rfl (Nat.le_of_ble_eq_true rfl) (Or.inr ⟨_, _, 62, rfl, Or.inl rfl⟩) k25 rfl ?_
          obtain ⟨g26, h⟩ := gd h
          refine go_imul (pc' := 111) dX7_weight_110 rfl g26 ?_
          refine go_istore (L' := [some (pvR 7 0 1), some (pvI x1), some (pvI x2), some (pvI v1), some (pvI j3), some (pvI (j9 * v24))]) (pc' := 113) dX7_weight_111 rfl (Nat.le_of_ble_eq_true rfl) rfl ?_
          cases h
          exact k19J
      clear h
      have h := k10
      refine go_if_eq (t := 84) (pc' := 60) dX7_weight_57 rfl rfl (fun c28 => ?_) (fun c28 => ?_)
      · rw [if_pos (show v7 = 0 from c28)] at h
        cases h
        exact k10J
      · rw [if_neg (show ¬ (v7 = 0) from c28)] at h
        refine go_iload (pc' := 62) dX7_weight_60 rfl rfl ?_
        refine go_aload_n (pc' := 63) dX7_weight_62 rfl rfl (Nat.le_of_ble_eq_true rfl) ?_
        refine go_getR (k' := 0) (L0 := 0) (P' := 32) (pc' := 66) dX7_weight_63 rfl rf_7_18 rfl rfl (by omega) ?_
        refine go_iload (pc' := 68) dX7_weight_66 rfl rfl ?_
        refine go_iload_n (pc' := 69) dX7_weight_68 rfl rfl ?_
        refine go_iconst (pc' := 70) dX7_weight_69 rfl (r32_c rfl) ?_
        obtain ⟨v11, k12, h⟩ := bd h
        have k12 := l_C_memberOf (d + 1) n e σ x1 1 _ k12
        refine go_call (kc := 61) (Mc := mt61) (v := some (pvI v11)) (w' := (true, n, e, σ)) (pc' := 73) (st' := [pvI v11, pvI j3, pvR 0 0 32, pvI v7]) [pvI x1, pvI 1] [pvI j3, pvR 0 0 32, pvI v7] (Or.inr (Or.inr (Or.inr (Or.inl rfl)))) dX7_weight_70 rfl rm_7_45 mtE61 rfl rfl rfl (Nat.le_of_ble_eq_true rfl) (Or.inl (by decide)) k12 rfl ?_
        refine go_iload_n (pc' := 74) dX7_weight_73 rfl rfl ?_
        refine go_iconst (pc' := 75) dX7_weight_74 rfl (r32_c rfl) ?_
        obtain ⟨v13, k14, h⟩ := bd h
        have k14 := l_C_memberOf (d + 1) n e σ x2 1 _ k14
        refine go_call (kc := 61) (Mc := mt61) (v := some (pvI v13)) (w' := (true, n, e, σ)) (pc' := 78) (st' := [pvI v13, pvI v11, pvI j3, pvR 0 0 32, pvI v7]) [pvI x2, pvI 1] [pvI v11, pvI j3, pvR 0 0 32, pvI v7] (Or.inr (Or.inr (Or.inr (Or.inl rfl)))) dX7_weight_75 rfl rm_7_45 mtE61 rfl rfl rfl (Nat.le_of_ble_eq_true rfl) (Or.inl (by decide)) k14 rfl ?_
        obtain ⟨v15, k16, h⟩ := bd h
        have k16 := l_D_weight (d + 1) n e σ 32 j3 v11 v13 _ k16
        refine go_call (kc := 75) (Mc := mt75) (v := some (pvI v15)) (w' := (true, n, e, σ)) (pc' := 81) (st' := [pvI v15, pvI v7]) [pvR 0 0 32, pvI j3, pvI v11, pvI v13] [pvI v7] (Or.inl rfl) dX7_weight_78 rfl rm_7_78 mtE75 rfl rfl rfl (Nat.le_of_ble_eq_true rfl) (Or.inr ⟨_, _, 32, rfl, Or.inl rfl⟩) k16 rfl ?_
        obtain ⟨g17, h⟩ := gd h
        refine go_imul (pc' := 82) dX7_weight_81 rfl g17 ?_
        refine go_istore (L' := [some (pvR 7 0 1), some (pvI x1), some (pvI x2), some (pvI v1), some (pvI j3), some (pvI (v7 * v15))]) (pc' := 84) dX7_weight_82 rfl (Nat.le_of_ble_eq_true rfl) rfl ?_
        cases h
        exact k10J
    clear h
    have h := k4
    refine go_if_eq (t := 35) (pc' := 30) dX7_weight_27 rfl rfl (fun c29 => ?_) (fun c29 => ?_)
    · rw [if_pos (show (σ 1 4) = 0 from c29)] at h
      refine go_iload_n (pc' := 36) dX7_weight_35 rfl rfl ?_
      cases h
      exact k4J
    · rw [if_neg (show ¬ ((σ 1 4) = 0) from c29)] at h
      refine go_bipush (pc' := 32) dX7_weight_30 rfl (r32_c rfl) (by decide) ?_
      refine go_goto (t := 36) dX7_weight_32 rfl ?_
      cases h
      exact k4J
  · rw [if_neg (show ¬ ((σ 1 5) = 0) from c62)] at h
    refine go_aload_n (pc' := 8) dX7_weight_7 rfl rfl (Nat.le_of_ble_eq_true rfl) ?_
    refine go_iload_n (pc' := 9) dX7_weight_8 rfl rfl ?_
    obtain ⟨v30, k31, h⟩ := bd h
    have k31 := l_S_isSeen (d + 0) n e σ x1 _ k31
    refine go_call (kc := 74) (Mc := mt74) (v := some (pvI v30)) (w' := (true, n, e, σ)) (pc' := 12) (st' := [pvI v30]) [pvR 7 0 1, pvI x1] [] (Or.inl rfl) dX7_weight_9 rfl rm_7_74 mtE74 rfl rfl rfl (Nat.le_of_ble_eq_true rfl) (Or.inr ⟨_, _, 1, rfl, Or.inl rfl⟩) k31 rfl ?_
    refine go_if_ne (t := 17) (pc' := 15) dX7_weight_12 rfl rfl (fun c61 => ?_) (fun c61 => ?_)
    · rw [if_pos (show v30 ≠ 0 from c61)] at h
      refine go_iload_n (pc' := 18) dX7_weight_17 rfl rfl ?_
      refine go_iconst (pc' := 19) dX7_weight_18 rfl (r32_c rfl) ?_
      obtain ⟨v32, k33, h⟩ := bd h
      have k33 := l_C_memberOf (d + 1) n e σ x1 0 _ k33
      refine go_call (kc := 61) (Mc := mt61) (v := some (pvI v32)) (w' := (true, n, e, σ)) (pc' := 22) (st' := [pvI v32]) [pvI x1, pvI 0] [] (Or.inr (Or.inr (Or.inr (Or.inl rfl)))) dX7_weight_19 rfl rm_7_45 mtE61 rfl rfl rfl (Nat.le_of_ble_eq_true rfl) (Or.inl (by decide)) k33 rfl ?_
      refine go_istore_n (L' := [some (pvR 7 0 1), some (pvI x1), some (pvI x2), some (pvI v32), none, none]) (pc' := 23) dX7_weight_22 rfl (Nat.le_of_ble_eq_true rfl) rfl ?_
      refine go_aload_n (pc' := 24) dX7_weight_23 rfl rfl (Nat.le_of_ble_eq_true rfl) ?_
      refine go_getZ (pc' := 27) dX7_weight_24 rfl rf_7_75 rfl ?_
      obtain ⟨j34, k35, h⟩ := bd h
      have k35J : Go none (Ev (d + 2)) mt73 36 [some (pvR 7 0 1), some (pvI x1), some (pvI x2), some (pvI v32), none, none] [pvI j34] (true, n, e, σ) (0, some (pvI r), true, n, e, σ) := by
        refine go_istore (L' := [some (pvR 7 0 1), some (pvI x1), some (pvI x2), some (pvI v32), some (pvI j34), none]) (pc' := 38) dX7_weight_36 rfl (Nat.le_of_ble_eq_true rfl) rfl ?_
        refine go_aload_n (pc' := 39) dX7_weight_38 rfl rfl (Nat.le_of_ble_eq_true rfl) ?_
        refine go_getR (k' := 0) (L0 := 0) (P' := 2) (pc' := 42) dX7_weight_39 rfl rf_7_12 rfl rfl (by omega) ?_
        refine go_iload (pc' := 44) dX7_weight_42 rfl rfl ?_
        refine go_iload_n (pc' := 45) dX7_weight_44 rfl rfl ?_
        refine go_iload_n (pc' := 46) dX7_weight_45 rfl rfl ?_
        refine go_iconst (pc' := 47) dX7_weight_46 rfl (r32_c rfl) ?_
        obtain ⟨v36, k37, h⟩ := bd h
        have k37 := l_C_memberOf (d + 1) n e σ x2 0 _ k37
        refine go_call (kc := 61) (Mc := mt61) (v := some (pvI v36)) (w' := (true, n, e, σ)) (pc' := 50) (st' := [pvI v36, pvI v32, pvI j34, pvR 0 0 2]) [pvI x2, pvI 0] [pvI v32, pvI j34, pvR 0 0 2] (Or.inr (Or.inr (Or.inr (Or.inl rfl)))) dX7_weight_47 rfl rm_7_45 mtE61 rfl rfl rfl (Nat.le_of_ble_eq_true rfl) (Or.inl (by decide)) k37 rfl ?_
        obtain ⟨v38, k39, h⟩ := bd h
        have k39 := l_D_weight (d + 1) n e σ 2 j34 v32 v36 _ k39
        refine go_call (kc := 75) (Mc := mt75) (v := some (pvI v38)) (w' := (true, n, e, σ)) (pc' := 53) (st' := [pvI v38]) [pvR 0 0 2, pvI j34, pvI v32, pvI v36] [] (Or.inl rfl) dX7_weight_50 rfl rm_7_78 mtE75 rfl rfl rfl (Nat.le_of_ble_eq_true rfl) (Or.inr ⟨_, _, 2, rfl, Or.inl rfl⟩) k39 rfl ?_
        refine go_istore (L' := [some (pvR 7 0 1), some (pvI x1), some (pvI x2), some (pvI v32), some (pvI j34), some (pvI v38)]) (pc' := 55) dX7_weight_53 rfl (Nat.le_of_ble_eq_true rfl) rfl ?_
        refine go_iload (pc' := 57) dX7_weight_55 rfl rfl ?_
        obtain ⟨j40, k41, h⟩ := bd h
        have k41J : Go none (Ev (d + 2)) mt73 84 [some (pvR 7 0 1), some (pvI x1), some (pvI x2), some (pvI v32), some (pvI j34), some (pvI j40)] [] (true, n, e, σ) (0, some (pvI r), true, n, e, σ) := by
          refine go_iload (pc' := 86) dX7_weight_84 rfl rfl ?_
          obtain ⟨j49, k50, h⟩ := bd h
          have k50J : Go none (Ev (d + 2)) mt73 113 [some (pvR 7 0 1), some (pvI x1), some (pvI x2), some (pvI v32), some (pvI j34), some (pvI j49)] [] (true, n, e, σ) (0, some (pvI r), true, n, e, σ) := by
            refine go_iload (pc' := 115) dX7_weight_113 rfl rfl ?_
            cases h
            exact go_iret dX7_weight_115 rfl rfl
          clear h
          have h := k50
          refine go_if_eq (t := 113) (pc' := 89) dX7_weight_86 rfl rfl (fun c58 => ?_) (fun c58 => ?_)
          · rw [if_pos (show j40 = 0 from c58)] at h
            cases h
            exact k50J
          · rw [if_neg (show ¬ (j40 = 0) from c58)] at h
            refine go_iload (pc' := 91) dX7_weight_89 rfl rfl ?_
            refine go_aload_n (pc' := 92) dX7_weight_91 rfl rfl (Nat.le_of_ble_eq_true rfl) ?_
            refine go_getR (k' := 0) (L0 := 0) (P' := 62) (pc' := 95) dX7_weight_92 rfl rf_7_21 rfl rfl (by omega) ?_
            refine go_iload (pc' := 97) dX7_weight_95 rfl rfl ?_
            refine go_iload_n (pc' := 98) dX7_weight_97 rfl rfl ?_
            refine go_iconst (pc' := 99) dX7_weight_98 rfl (r32_c rfl) ?_
            obtain ⟨v51, k52, h⟩ := bd h
            have k52 := l_C_memberOf (d + 1) n e σ x1 2 _ k52
            refine go_call (kc := 61) (Mc := mt61) (v := some (pvI v51)) (w' := (true, n, e, σ)) (pc' := 102) (st' := [pvI v51, pvI j34, pvR 0 0 62, pvI j40]) [pvI x1, pvI 2] [pvI j34, pvR 0 0 62, pvI j40] (Or.inr (Or.inr (Or.inr (Or.inl rfl)))) dX7_weight_99 rfl rm_7_45 mtE61 rfl rfl rfl (Nat.le_of_ble_eq_true rfl) (Or.inl (by decide)) k52 rfl ?_
            refine go_iload_n (pc' := 103) dX7_weight_102 rfl rfl ?_
            refine go_iconst (pc' := 104) dX7_weight_103 rfl (r32_c rfl) ?_
            obtain ⟨v53, k54, h⟩ := bd h
            have k54 := l_C_memberOf (d + 1) n e σ x2 2 _ k54
            refine go_call (kc := 61) (Mc := mt61) (v := some (pvI v53)) (w' := (true, n, e, σ)) (pc' := 107) (st' := [pvI v53, pvI v51, pvI j34, pvR 0 0 62, pvI j40]) [pvI x2, pvI 2] [pvI v51, pvI j34, pvR 0 0 62, pvI j40] (Or.inr (Or.inr (Or.inr (Or.inl rfl)))) dX7_weight_104 rfl rm_7_45 mtE61 rfl rfl rfl (Nat.le_of_ble_eq_true rfl) (Or.inl (by decide)) k54 rfl ?_
            obtain ⟨v55, k56, h⟩ := bd h
            have k56 := l_D_weight (d + 1) n e σ 62 j34 v51 v53 _ k56
            refine go_call (kc := 75) (Mc := mt75) (v := some (pvI v55)) (w' := (true, n, e, σ)) (pc' := 110) (st' := [pvI v55, pvI j40]) [pvR 0 0 62, pvI j34, pvI v51, pvI v53] [pvI j40] (Or.inl rfl) dX7_weight_107 rfl rm_7_78 mtE75 rfl rfl rfl (Nat.le_of_ble_eq_true rfl) (Or.inr ⟨_, _, 62, rfl, Or.inl rfl⟩) k56 rfl ?_
            obtain ⟨g57, h⟩ := gd h
            refine go_imul (pc' := 111) dX7_weight_110 rfl g57 ?_
            refine go_istore (L' := [some (pvR 7 0 1), some (pvI x1), some (pvI x2), some (pvI v32), some (pvI j34), some (pvI (j40 * v55))]) (pc' := 113) dX7_weight_111 rfl (Nat.le_of_ble_eq_true rfl) rfl ?_
            cases h
            exact k50J
        clear h
        have h := k41
        refine go_if_eq (t := 84) (pc' := 60) dX7_weight_57 rfl rfl (fun c59 => ?_) (fun c59 => ?_)
        · rw [if_pos (show v38 = 0 from c59)] at h
          cases h
          exact k41J
        · rw [if_neg (show ¬ (v38 = 0) from c59)] at h
          refine go_iload (pc' := 62) dX7_weight_60 rfl rfl ?_
          refine go_aload_n (pc' := 63) dX7_weight_62 rfl rfl (Nat.le_of_ble_eq_true rfl) ?_
          refine go_getR (k' := 0) (L0 := 0) (P' := 32) (pc' := 66) dX7_weight_63 rfl rf_7_18 rfl rfl (by omega) ?_
          refine go_iload (pc' := 68) dX7_weight_66 rfl rfl ?_
          refine go_iload_n (pc' := 69) dX7_weight_68 rfl rfl ?_
          refine go_iconst (pc' := 70) dX7_weight_69 rfl (r32_c rfl) ?_
          obtain ⟨v42, k43, h⟩ := bd h
          have k43 := l_C_memberOf (d + 1) n e σ x1 1 _ k43
          refine go_call (kc := 61) (Mc := mt61) (v := some (pvI v42)) (w' := (true, n, e, σ)) (pc' := 73) (st' := [pvI v42, pvI j34, pvR 0 0 32, pvI v38]) [pvI x1, pvI 1] [pvI j34, pvR 0 0 32, pvI v38] (Or.inr (Or.inr (Or.inr (Or.inl rfl)))) dX7_weight_70 rfl rm_7_45 mtE61 rfl rfl rfl (Nat.le_of_ble_eq_true rfl) (Or.inl (by decide)) k43 rfl ?_
          refine go_iload_n (pc' := 74) dX7_weight_73 rfl rfl ?_
          refine go_iconst (pc' := 75) dX7_weight_74 rfl (r32_c rfl) ?_
          obtain ⟨v44, k45, h⟩ := bd h
          have k45 := l_C_memberOf (d + 1) n e σ x2 1 _ k45
          refine go_call (kc := 61) (Mc := mt61) (v := some (pvI v44)) (w' := (true, n, e, σ)) (pc' := 78) (st' := [pvI v44, pvI v42, pvI j34, pvR 0 0 32, pvI v38]) [pvI x2, pvI 1] [pvI v42, pvI j34, pvR 0 0 32, pvI v38] (Or.inr (Or.inr (Or.inr (Or.inl rfl)))) dX7_weight_75 rfl rm_7_45 mtE61 rfl rfl rfl (Nat.le_of_ble_eq_true rfl) (Or.inl (by decide)) k45 rfl ?_
          obtain ⟨v46, k47, h⟩ := bd h
          have k47 := l_D_weight (d + 1) n e σ 32 j34 v42 v44 _ k47
          refine go_call (kc := 75) (Mc := mt75) (v := some (pvI v46)) (w' := (true, n, e, σ)) (pc' := 81) (st' := [pvI v46, pvI v38]) [pvR 0 0 32, pvI j34, pvI v42, pvI v44] [pvI v38] (Or.inl rfl) dX7_weight_78 rfl rm_7_78 mtE75 rfl rfl rfl (Nat.le_of_ble_eq_true rfl) (Or.inr ⟨_, _, 32, rfl, Or.inl rfl⟩) k47 rfl ?_
          obtain ⟨g48, h⟩ := gd h
          refine go_imul (pc' := 82) dX7_weight_81 rfl g48 ?_
          refine go_istore (L' := [some (pvR 7 0 1), some (pvI x1), some (pvI x2), some (pvI v32), some (pvI j34), some (pvI (v38 * v46))]) (pc' := 84) dX7_weight_82 rfl (Nat.le_of_ble_eq_true rfl) rfl ?_
          cases h
          exact k41J
      clear h
      have h := k35
      refine go_if_eq (t := 35) (pc' := 30) dX7_weight_27 rfl rfl (fun c60 => ?_) (fun c60 => ?_)
      · rw [if_pos (show (σ 1 4) = 0 from c60)] at h
        refine go_iload_n (pc' := 36) dX7_weight_35 rfl rfl ?_
        cases h
        exact k35J
      · rw [if_neg (show ¬ ((σ 1 4) = 0) from c60)] at h
        refine go_bipush (pc' := 32) dX7_weight_30 rfl (r32_c rfl) (by decide) ?_
        refine go_goto (t := 36) dX7_weight_32 rfl ?_
        cases h
        exact k35J
    · rw [if_neg (show ¬ (v30 ≠ 0) from c61)] at h
      refine go_iconst (pc' := 16) dX7_weight_15 rfl (r32_c rfl) ?_
      cases h
      exact go_iret dX7_weight_16 rfl rfl

set_option maxRecDepth 10000 in
theorem l_K_shift (d : Nat) (n e : Nat) (σ : Hp) (x1 : Int) (x2 : Int) (r : Hp) (h : f_K_shift σ x1 x2 = some r) : Ev (d + 2) 76 [pvR 3 0 108, pvI x1, pvI x2] (true, n, e, σ) (0, none, true, n, e, r) := by
  unfold f_K_shift at h
  refine Ev.of mtE76 rfl rfl rfl rfl ?_
  show Go none (Ev (d + 1)) mt76 0 [some (pvR 3 0 108), some (pvI x1), some (pvI x2)] [] (true, n, e, σ) (0, none, true, n, e, r)
  refine go_aload_n (pc' := 1) dX3_shift_0 rfl rfl (Nat.le_of_ble_eq_true rfl) ?_
  refine go_iload_n (pc' := 2) dX3_shift_1 rfl rfl ?_
  obtain ⟨v1, k2, h⟩ := bd h
  have k2 := l_K_has (d + 0) n e σ x1 _ k2
  refine go_call (kc := 67) (Mc := mt67) (v := some (pvI v1)) (w' := (true, n, e, σ)) (pc' := 5) (st' := [pvI v1]) [pvR 3 0 108, pvI x1] [] (Or.inl rfl) dX3_shift_2 rfl rm_3_26 mtE67 rfl rfl rfl (Nat.le_of_ble_eq_true rfl) (Or.inr ⟨_, _, 108, rfl, Or.inl rfl⟩) k2 rfl ?_
  obtain ⟨j3, k4, h⟩ := bd h
  have k4J : Go none (Ev (d + 1)) mt76 52 [some (pvR 3 0 108), some (pvI x1), some (pvI x2)] [] (true, n, e, j3) (0, none, true, n, e, r) := by
    cases h
    exact go_vret dX3_shift_52 rfl rfl
  clear h
  have h := k4
  refine go_if_eq (t := 52) (pc' := 8) dX3_shift_5 rfl rfl (fun c14 => ?_) (fun c14 => ?_)
  · rw [if_pos (show v1 = 0 from c14)] at h
    cases h
    exact k4J
  · rw [if_neg (show ¬ (v1 = 0) from c14)] at h
    refine go_aload_n (pc' := 9) dX3_shift_8 rfl rfl (Nat.le_of_ble_eq_true rfl) ?_
    refine go_iload_n (pc' := 10) dX3_shift_9 rfl rfl ?_
    obtain ⟨v5, k6, h⟩ := bd h
    have k6 := l_K_has (d + 0) n e σ x2 _ k6
    refine go_call (kc := 67) (Mc := mt67) (v := some (pvI v5)) (w' := (true, n, e, σ)) (pc' := 13) (st' := [pvI v5]) [pvR 3 0 108, pvI x2] [] (Or.inl rfl) dX3_shift_10 rfl rm_3_26 mtE67 rfl rfl rfl (Nat.le_of_ble_eq_true rfl) (Or.inr ⟨_, _, 108, rfl, Or.inl rfl⟩) k6 rfl ?_
    refine go_if_eq (t := 52) (pc' := 16) dX3_shift_13 rfl rfl (fun c13 => ?_) (fun c13 => ?_)
    · rw [if_pos (show v5 = 0 from c13)] at h
      cases h
      exact k4J
    · rw [if_neg (show ¬ (v5 = 0) from c13)] at h
      refine go_aload_n (pc' := 17) dX3_shift_16 rfl rfl (Nat.le_of_ble_eq_true rfl) ?_
      refine go_getR (k' := 12) (L0 := 20) (P' := 109) (pc' := 20) dX3_shift_17 rfl rf_3_9 rfl rfl (by omega) ?_
      refine go_iload_n (pc' := 21) dX3_shift_20 rfl rfl ?_
      refine go_aload_n (pc' := 22) dX3_shift_21 rfl rfl (Nat.le_of_ble_eq_true rfl) ?_
      refine go_getR (k' := 12) (L0 := 20) (P' := 109) (pc' := 25) dX3_shift_22 rfl rf_3_9 rfl rfl (by omega) ?_
      refine go_iload_n (pc' := 26) dX3_shift_25 rfl rfl ?_
      obtain ⟨g7, h⟩ := gd h
      refine go_iald (pc' := 27) dX3_shift_26 rfl g7 ?_
      obtain ⟨g8, h⟩ := gd h
      refine go_iast (pc' := 28) dX3_shift_27 rfl g8 ?_
      refine go_aload_n (pc' := 29) dX3_shift_28 rfl rfl (Nat.le_of_ble_eq_true rfl) ?_
      refine go_getR (k' := 12) (L0 := 20) (P' := 110) (pc' := 32) dX3_shift_29 rfl rf_3_15 rfl rfl (by omega) ?_
      refine go_iload_n (pc' := 33) dX3_shift_32 rfl rfl ?_
      refine go_aload_n (pc' := 34) dX3_shift_33 rfl rfl (Nat.le_of_ble_eq_true rfl) ?_
      refine go_getR (k' := 12) (L0 := 20) (P' := 110) (pc' := 37) dX3_shift_34 rfl rf_3_15 rfl rfl (by omega) ?_
      refine go_iload_n (pc' := 38) dX3_shift_37 rfl rfl ?_
      obtain ⟨g9, h⟩ := gd h
      refine go_iald (pc' := 39) dX3_shift_38 rfl g9 ?_
      obtain ⟨g10, h⟩ := gd h
      refine go_iast (pc' := 40) dX3_shift_39 rfl g10 ?_
      refine go_aload_n (pc' := 41) dX3_shift_40 rfl rfl (Nat.le_of_ble_eq_true rfl) ?_
      refine go_getR (k' := 13) (L0 := 20) (P' := 111) (pc' := 44) dX3_shift_41 rfl rf_3_18 rfl rfl (by omega) ?_
      refine go_iload_n (pc' := 45) dX3_shift_44 rfl rfl ?_
      refine go_aload_n (pc' := 46) dX3_shift_45 rfl rfl (Nat.le_of_ble_eq_true rfl) ?_
      refine go_getR (k' := 13) (L0 := 20) (P' := 111) (pc' := 49) dX3_shift_46 rfl rf_3_18 rfl rfl (by omega) ?_
      refine go_iload_n (pc' := 50) dX3_shift_49 rfl rfl ?_
      obtain ⟨g11, h⟩ := gd h
      refine go_lald (pc' := 51) dX3_shift_50 rfl g11 ?_
      obtain ⟨g12, h⟩ := gd h
      refine go_last (pc' := 52) dX3_shift_51 rfl g12 ?_
      cases h
      exact k4J

set_option maxRecDepth 10000 in
theorem l_C_dropFor_5 (d : Nat) (n : Nat) (e : Nat) (x1 : Int) (x2 : Int) {out : Out} : ∀ (F : Nat) (y1 : Int) (y2 : Int) (σ3 : Hp) (j27 : Int × Int × Hp), f_C_dropFor_5 x1 x2 F y1 y2 σ3 = some j27 → Go none (Ev (d + 4)) mt65 108 [some (pvR 10 0 0), some (pvI x1), some (pvI x2), some (pvI j27.1), some (pvI j27.2.1), none, none, none] [] (true, n, e, j27.2.2) out → Go none (Ev (d + 4)) mt65 5 [some (pvR 10 0 0), some (pvI x1), some (pvI x2), some (pvI y1), some (pvI y2), none, none, none] [] (true, n, e, σ3) out := by
  intro F
  induction F with
  | zero =>
    intro _ _ _ _ h
    intro _
    rw [f_C_dropFor_5] at h
    cases h
  | succ F ih =>
    intro y1 y2 σ3 j27 h hx
    rw [f_C_dropFor_5] at h
    refine go_iload (pc' := 7) dX10_dropFor_5 rfl rfl ?_
    refine go_aload_n (pc' := 8) dX10_dropFor_7 rfl rfl (Nat.le_of_ble_eq_true rfl) ?_
    refine go_getR (k' := 3) (L0 := 0) (P' := 108) (pc' := 11) dX10_dropFor_8 rfl rf_10_35 rfl rfl (by omega) ?_
    refine go_getI (pc' := 14) dX10_dropFor_11 rfl rf_10_252 rfl ?_
    refine go_icmp_ge (t := 108) (pc' := 17) dX10_dropFor_14 rfl rfl (fun c26 => ?_) (fun c26 => ?_)
    · rw [if_pos (show (σ3 108 0) ≤ y2 from c26)] at h
      cases h
      exact hx
    · rw [if_neg (show ¬ ((σ3 108 0) ≤ y2) from c26)] at h
      refine go_aload_n (pc' := 18) dX10_dropFor_17 rfl rfl (Nat.le_of_ble_eq_true rfl) ?_
      refine go_getR (k' := 3) (L0 := 0) (P' := 108) (pc' := 21) dX10_dropFor_18 rfl rf_10_35 rfl rfl (by omega) ?_
      refine go_iload (pc' := 23) dX10_dropFor_21 rfl rfl ?_
      obtain ⟨v4, k5, h⟩ := bd h
      have k5 := l_K_cellAt (d + 2) n e σ3 y2 _ k5
      refine go_call (kc := 66) (Mc := mt66) (v := some (pvI v4)) (w' := (true, n, e, σ3)) (pc' := 26) (st' := [pvI v4]) [pvR 3 0 108, pvI y2] [] (Or.inl rfl) dX10_dropFor_23 rfl rm_10_373 mtE66 rfl rfl rfl (Nat.le_of_ble_eq_true rfl) (Or.inr ⟨_, _, 108, rfl, Or.inl rfl⟩) k5 rfl ?_
      refine go_istore (L' := [some (pvR 10 0 0), some (pvI x1), some (pvI x2), some (pvI y1), some (pvI y2), some (pvI v4), none, none]) (pc' := 28) dX10_dropFor_26 rfl (Nat.le_of_ble_eq_true rfl) rfl ?_
      refine go_aload_n (pc' := 29) dX10_dropFor_28 rfl rfl (Nat.le_of_ble_eq_true rfl) ?_
      refine go_getR (k' := 4) (L0 := 0) (P' := 95) (pc' := 32) dX10_dropFor_29 rfl rf_10_21 rfl rfl (by omega) ?_
      refine go_aload_n (pc' := 33) dX10_dropFor_32 rfl rfl (Nat.le_of_ble_eq_true rfl) ?_
      refine go_getR (k' := 3) (L0 := 0) (P' := 108) (pc' := 36) dX10_dropFor_33 rfl rf_10_35 rfl rfl (by omega) ?_
      refine go_iload (pc' := 38) dX10_dropFor_36 rfl rfl ?_
      obtain ⟨v6, k7, h⟩ := bd h
      have k7 := l_K_measureAt (d + 2) n e σ3 y2 _ k7
      refine go_call (kc := 68) (Mc := mt68) (v := some (pvI v6)) (w' := (true, n, e, σ3)) (pc' := 41) (st' := [pvI v6, pvR 4 0 95]) [pvR 3 0 108, pvI y2] [pvR 4 0 95] (Or.inl rfl) dX10_dropFor_38 rfl rm_10_374 mtE68 rfl rfl rfl (Nat.le_of_ble_eq_true rfl) (Or.inr ⟨_, _, 108, rfl, Or.inl rfl⟩) k7 rfl ?_
      refine go_iload_n (pc' := 42) dX10_dropFor_41 rfl rfl ?_
      obtain ⟨v8, k9, h⟩ := bd h
      have k9 := l_MS_needs (d + 2) n e σ3 v6 x2 _ k9
      refine go_call (kc := 69) (Mc := mt69) (v := some (pvI v8)) (w' := (true, n, e, σ3)) (pc' := 45) (st' := [pvI v8]) [pvR 4 0 95, pvI v6, pvI x2] [] (Or.inl rfl) dX10_dropFor_42 rfl rm_10_375 mtE69 rfl rfl rfl (Nat.le_of_ble_eq_true rfl) (Or.inr ⟨_, _, 95, rfl, Or.inl rfl⟩) k9 rfl ?_
      refine go_istore (L' := [some (pvR 10 0 0), some (pvI x1), some (pvI x2), some (pvI y1), some (pvI y2), some (pvI v4), some (pvI v8), none]) (pc' := 47) dX10_dropFor_45 rfl (Nat.le_of_ble_eq_true rfl) rfl ?_
      refine go_aload_n (pc' := 48) dX10_dropFor_47 rfl rfl (Nat.le_of_ble_eq_true rfl) ?_
      refine go_getR (k' := 7) (L0 := 0) (P' := 1) (pc' := 51) dX10_dropFor_48 rfl rf_10_12 rfl rfl (by omega) ?_
      refine go_iload (pc' := 53) dX10_dropFor_51 rfl rfl ?_
      obtain ⟨v10, k11, h⟩ := bd h
      have k11 := l_S_isCalculated (d + 0) n e σ3 v4 _ k11
      refine go_call (kc := 70) (Mc := mt70) (v := some (pvI v10)) (w' := (true, n, e, σ3)) (pc' := 56) (st' := [pvI v10]) [pvR 7 0 1, pvI v4] [] (Or.inl rfl) dX10_dropFor_53 rfl rm_10_281 mtE70 rfl rfl rfl (Nat.le_of_ble_eq_true rfl) (Or.inr ⟨_, _, 1, rfl, Or.inl rfl⟩) k11 rfl ?_
      obtain ⟨j12, k13, h⟩ := bd h
      have k13J : Go none (Ev (d + 4)) mt65 82 [some (pvR 10 0 0), some (pvI x1), some (pvI x2), some (pvI y1), some (pvI y2), some (pvI v4), some (pvI v8), none] [pvI j12] (true, n, e, σ3) out := by
        refine go_istore (L' := [some (pvR 10 0 0), some (pvI x1), some (pvI x2), some (pvI y1), some (pvI y2), some (pvI v4), some (pvI v8), some (pvI j12)]) (pc' := 84) dX10_dropFor_82 rfl (Nat.le_of_ble_eq_true rfl) rfl ?_
        refine go_iload (pc' := 86) dX10_dropFor_84 rfl rfl ?_
        obtain ⟨j18, k19, h⟩ := bd h
        have k19J : Go none (Ev (d + 4)) mt65 102 [some (pvR 10 0 0), some (pvI x1), some (pvI x2), some (pvI j18.1), some (pvI y2), some (pvI v4), some (pvI v8), some (pvI j12)] [] (true, n, e, j18.2) out := by
          obtain ⟨g23, h⟩ := gd h
          refine go_iinc (L' := [some (pvR 10 0 0), some (pvI x1), some (pvI x2), some (pvI j18.1), some (pvI (y2 + 1)), some (pvI v4), some (pvI v8), some (pvI j12)]) (pc' := 105) dX10_dropFor_102 rfl rfl g23 rfl ?_
          refine go_goto (t := 5) dX10_dropFor_105 rfl ?_
          exact go_sub (ih j18.1 (y2 + 1) j18.2 _ h hx) ⟨Or.inr rfl, Or.inr rfl, Or.inr rfl, Or.inr rfl, Or.inr rfl, Or.inl rfl, Or.inl rfl, Or.inl rfl, trivial⟩
        clear h
        have h := k19
        refine go_if_ne (t := 102) (pc' := 89) dX10_dropFor_86 rfl rfl (fun c24 => ?_) (fun c24 => ?_)
        · rw [if_pos (show j12 ≠ 0 from c24)] at h
          cases h
          exact k19J
        · rw [if_neg (show ¬ (j12 ≠ 0) from c24)] at h
          refine go_aload_n (pc' := 90) dX10_dropFor_89 rfl rfl (Nat.le_of_ble_eq_true rfl) ?_
          refine go_getR (k' := 3) (L0 := 0) (P' := 108) (pc' := 93) dX10_dropFor_90 rfl rf_10_35 rfl rfl (by omega) ?_
          refine go_iload (pc' := 95) dX10_dropFor_93 rfl rfl ?_
          refine go_iload_n (pc' := 96) dX10_dropFor_95 rfl rfl ?_
          obtain ⟨v20, k21, h⟩ := bd h
          have k21 := l_K_shift (d + 2) n e σ3 y2 y1 _ k21
          refine go_call (kc := 76) (Mc := mt76) (v := none) (w' := (true, n, e, v20)) (pc' := 99) (st' := []) [pvR 3 0 108, pvI y2, pvI y1] [] (Or.inl rfl) dX10_dropFor_96 rfl rm_10_381 mtE76 rfl rfl rfl (Nat.le_of_ble_eq_true rfl) (Or.inr ⟨_, _, 108, rfl, Or.inl rfl⟩) k21 rfl ?_
          obtain ⟨g22, h⟩ := gd h
          refine go_iinc (L' := [some (pvR 10 0 0), some (pvI x1), some (pvI x2), some (pvI (y1 + 1)), some (pvI y2), some (pvI v4), some (pvI v8), some (pvI j12)]) (pc' := 102) dX10_dropFor_99 rfl rfl g22 rfl ?_
          cases h
          exact k19J
      clear h
      have h := k13
      refine go_if_ne (t := 77) (pc' := 59) dX10_dropFor_56 rfl rfl (fun c25 => ?_) (fun c25 => ?_)
      · rw [if_pos (show v10 ≠ 0 from c25)] at h
        refine go_iconst (pc' := 78) dX10_dropFor_77 rfl (r32_c rfl) ?_
        refine go_goto (t := 82) dX10_dropFor_78 rfl ?_
        cases h
        exact k13J
      · rw [if_neg (show ¬ (v10 ≠ 0) from c25)] at h
        refine go_iload (pc' := 61) dX10_dropFor_59 rfl rfl ?_
        refine go_if_eq (t := 81) (pc' := 64) dX10_dropFor_61 rfl rfl (fun c17 => ?_) (fun c17 => ?_)
        · rw [if_pos (show v8 = 0 from c17)] at h
          refine go_iconst (pc' := 82) dX10_dropFor_81 rfl (r32_c rfl) ?_
          cases h
          exact k13J
        · rw [if_neg (show ¬ (v8 = 0) from c17)] at h
          refine go_aload_n (pc' := 65) dX10_dropFor_64 rfl rfl (Nat.le_of_ble_eq_true rfl) ?_
          refine go_getR (k' := 7) (L0 := 0) (P' := 1) (pc' := 68) dX10_dropFor_65 rfl rf_10_12 rfl rfl (by omega) ?_
          refine go_iload_n (pc' := 69) dX10_dropFor_68 rfl rfl ?_
          refine go_iload (pc' := 71) dX10_dropFor_69 rfl rfl ?_
          obtain ⟨v14, k15, h⟩ := bd h
          have k15 := l_S_weight (d + 1) n e σ3 x1 v4 _ k15
          refine go_call (kc := 73) (Mc := mt73) (v := some (pvI v14)) (w' := (true, n, e, σ3)) (pc' := 74) (st' := [pvI v14]) [pvR 7 0 1, pvI x1, pvI v4] [] (Or.inl rfl) dX10_dropFor_71 rfl rm_10_378 mtE73 rfl rfl rfl (Nat.le_of_ble_eq_true rfl) (Or.inr ⟨_, _, 1, rfl, Or.inl rfl⟩) k15 rfl ?_
          refine go_if_eq (t := 81) (pc' := 77) dX10_dropFor_74 rfl rfl (fun c16 => ?_) (fun c16 => ?_)
          · rw [if_pos (show v14 = 0 from c16)] at h
            refine go_iconst (pc' := 82) dX10_dropFor_81 rfl (r32_c rfl) ?_
            cases h
            exact k13J
          · rw [if_neg (show ¬ (v14 = 0) from c16)] at h
            refine go_iconst (pc' := 78) dX10_dropFor_77 rfl (r32_c rfl) ?_
            refine go_goto (t := 82) dX10_dropFor_78 rfl ?_
            cases h
            exact k13J

set_option maxRecDepth 10000 in
theorem l_C_dropFor (d : Nat) (n e : Nat) (σ : Hp) (x1 : Int) (x2 : Int) (r : Hp) (h : f_C_dropFor σ x1 x2 = some r) : Ev (d + 5) 65 [pvR 10 0 0, pvI x1, pvI x2] (true, n, e, σ) (0, none, true, n, e, r) := by
  unfold f_C_dropFor at h
  refine Ev.of mtE65 rfl rfl rfl rfl ?_
  show Go none (Ev (d + 4)) mt65 0 [some (pvR 10 0 0), some (pvI x1), some (pvI x2), none, none, none, none, none] [] (true, n, e, σ) (0, none, true, n, e, r)
  refine go_iconst (pc' := 1) dX10_dropFor_0 rfl (r32_c rfl) ?_
  refine go_istore_n (L' := [some (pvR 10 0 0), some (pvI x1), some (pvI x2), some (pvI 0), none, none, none, none]) (pc' := 2) dX10_dropFor_1 rfl (Nat.le_of_ble_eq_true rfl) rfl ?_
  refine go_iconst (pc' := 3) dX10_dropFor_2 rfl (r32_c rfl) ?_
  refine go_istore (L' := [some (pvR 10 0 0), some (pvI x1), some (pvI x2), some (pvI 0), some (pvI 0), none, none, none]) (pc' := 5) dX10_dropFor_3 rfl (Nat.le_of_ble_eq_true rfl) rfl ?_
  obtain ⟨j28, k29, h⟩ := bd h
  refine l_C_dropFor_5 d n e x1 x2 zFuel 0 0 σ _ k29 ?_
  refine go_aload_n (pc' := 109) dX10_dropFor_108 rfl rfl (Nat.le_of_ble_eq_true rfl) ?_
  refine go_getR (k' := 3) (L0 := 0) (P' := 108) (pc' := 112) dX10_dropFor_109 rfl rf_10_35 rfl rfl (by omega) ?_
  refine go_iload_n (pc' := 113) dX10_dropFor_112 rfl rfl ?_
  refine go_putI (pc' := 116) dX10_dropFor_113 rfl rf_10_252 rfl ?_
  cases h
  exact go_vret dX10_dropFor_116 rfl rfl

set_option maxRecDepth 10000 in
theorem l_FR_has (d : Nat) (n e : Nat) (σ : Hp) (x1 : Int) (r : Int) (h : f_FR_has σ x1 = some r) : Ev (d + 1) 79 [pvR 1 0 101, pvI x1] (true, n, e, σ) (0, some (pvI r), true, n, e, σ) := by
  unfold f_FR_has at h
  refine Ev.of mtE79 rfl rfl rfl rfl ?_
  show Go none (Ev (d + 0)) mt79 0 [some (pvR 1 0 101), some (pvI x1)] [] (true, n, e, σ) (0, some (pvI r), true, n, e, σ)
  refine go_iload_n (pc' := 1) dX1_has_0 rfl rfl ?_
  obtain ⟨j1, k2, h⟩ := bd h
  have k2J : Go none (Ev (d + 0)) mt79 23 [some (pvR 1 0 101), some (pvI x1)] [pvI j1] (true, n, e, σ) (0, some (pvI r), true, n, e, σ) := by
    obtain ⟨g5, h⟩ := gd h
    cases h
    exact go_zret dX1_has_23 rfl g5 rfl
  clear h
  have h := k2
  refine go_if_lt (t := 22) (pc' := 4) dX1_has_1 rfl rfl (fun c6 => ?_) (fun c6 => ?_)
  · rw [if_pos (show x1 < 0 from c6)] at h
    refine go_iconst (pc' := 23) dX1_has_22 rfl (r32_c rfl) ?_
    cases h
    exact k2J
  · rw [if_neg (show ¬ (x1 < 0) from c6)] at h
    refine go_iload_n (pc' := 5) dX1_has_4 rfl rfl ?_
    refine go_aload_n (pc' := 6) dX1_has_5 rfl rfl (Nat.le_of_ble_eq_true rfl) ?_
    refine go_getI (pc' := 9) dX1_has_6 rfl rf_1_30 rfl ?_
    refine go_icmp_ge (t := 22) (pc' := 12) dX1_has_9 rfl rfl (fun c4 => ?_) (fun c4 => ?_)
    · rw [if_pos (show (σ 101 0) ≤ x1 from c4)] at h
      refine go_iconst (pc' := 23) dX1_has_22 rfl (r32_c rfl) ?_
      cases h
      exact k2J
    · rw [if_neg (show ¬ ((σ 101 0) ≤ x1) from c4)] at h
      refine go_iload_n (pc' := 13) dX1_has_12 rfl rfl ?_
      refine go_bipush (pc' := 15) dX1_has_13 rfl (r32_c rfl) (by decide) ?_
      refine go_icmp_ge (t := 22) (pc' := 18) dX1_has_15 rfl rfl (fun c3 => ?_) (fun c3 => ?_)
      · rw [if_pos (show 50 ≤ x1 from c3)] at h
        refine go_iconst (pc' := 23) dX1_has_22 rfl (r32_c rfl) ?_
        cases h
        exact k2J
      · rw [if_neg (show ¬ (50 ≤ x1) from c3)] at h
        refine go_iconst (pc' := 19) dX1_has_18 rfl (r32_c rfl) ?_
        refine go_goto (t := 23) dX1_has_19 rfl ?_
        cases h
        exact k2J

set_option maxRecDepth 10000 in
theorem l_FR_numberAt (d : Nat) (n e : Nat) (σ : Hp) (x1 : Int) (r : Int) (h : f_FR_numberAt σ x1 = some r) : Ev (d + 2) 78 [pvR 1 0 101, pvI x1] (true, n, e, σ) (0, some (pvI r), true, n, e, σ) := by
  unfold f_FR_numberAt at h
  refine Ev.of mtE78 rfl rfl rfl rfl ?_
  show Go none (Ev (d + 1)) mt78 0 [some (pvR 1 0 101), some (pvI x1)] [] (true, n, e, σ) (0, some (pvI r), true, n, e, σ)
  refine go_aload_n (pc' := 1) dX1_numberAt_0 rfl rfl (Nat.le_of_ble_eq_true rfl) ?_
  refine go_iload_n (pc' := 2) dX1_numberAt_1 rfl rfl ?_
  obtain ⟨v1, k2, h⟩ := bd h
  have k2 := l_FR_has (d + 0) n e σ x1 _ k2
  refine go_call (kc := 79) (Mc := mt79) (v := some (pvI v1)) (w' := (true, n, e, σ)) (pc' := 5) (st' := [pvI v1]) [pvR 1 0 101, pvI x1] [] (Or.inl rfl) dX1_numberAt_2 rfl rm_1_34 mtE79 rfl rfl rfl (Nat.le_of_ble_eq_true rfl) (Or.inr ⟨_, _, 101, rfl, Or.inl rfl⟩) k2 rfl ?_
  obtain ⟨j3, k4, h⟩ := bd h
  have k4J : Go none (Ev (d + 1)) mt78 18 [some (pvR 1 0 101), some (pvI x1)] [pvI j3] (true, n, e, σ) (0, some (pvI r), true, n, e, σ) := by
    cases h
    exact go_iret dX1_numberAt_18 rfl rfl
  clear h
  have h := k4
  refine go_if_eq (t := 17) (pc' := 8) dX1_numberAt_5 rfl rfl (fun c6 => ?_) (fun c6 => ?_)
  · rw [if_pos (show v1 = 0 from c6)] at h
    refine go_iconst (pc' := 18) dX1_numberAt_17 rfl (r32_c rfl) ?_
    cases h
    exact k4J
  · rw [if_neg (show ¬ (v1 = 0) from c6)] at h
    refine go_aload_n (pc' := 9) dX1_numberAt_8 rfl rfl (Nat.le_of_ble_eq_true rfl) ?_
    refine go_getR (k' := 12) (L0 := 50) (P' := 104) (pc' := 12) dX1_numberAt_9 rfl rf_1_18 rfl rfl (by omega) ?_
    refine go_iload_n (pc' := 13) dX1_numberAt_12 rfl rfl ?_
    obtain ⟨g5, h⟩ := gd h
    refine go_iald (pc' := 14) dX1_numberAt_13 rfl g5 ?_
    refine go_goto (t := 18) dX1_numberAt_14 rfl ?_
    cases h
    exact k4J

set_option maxRecDepth 10000 in
theorem l_FR_setNumber (d : Nat) (n e : Nat) (σ : Hp) (x1 : Int) (x2 : Int) (r : Hp) (h : f_FR_setNumber σ x1 x2 = some r) : Ev (d + 2) 80 [pvR 1 0 101, pvI x1, pvI x2] (true, n, e, σ) (0, none, true, n, e, r) := by
  unfold f_FR_setNumber at h
  refine Ev.of mtE80 rfl rfl rfl rfl ?_
  show Go none (Ev (d + 1)) mt80 0 [some (pvR 1 0 101), some (pvI x1), some (pvI x2)] [] (true, n, e, σ) (0, none, true, n, e, r)
  refine go_aload_n (pc' := 1) dX1_setNumber_0 rfl rfl (Nat.le_of_ble_eq_true rfl) ?_
  refine go_iload_n (pc' := 2) dX1_setNumber_1 rfl rfl ?_
  obtain ⟨v1, k2, h⟩ := bd h
  have k2 := l_FR_has (d + 0) n e σ x1 _ k2
  refine go_call (kc := 79) (Mc := mt79) (v := some (pvI v1)) (w' := (true, n, e, σ)) (pc' := 5) (st' := [pvI v1]) [pvR 1 0 101, pvI x1] [] (Or.inl rfl) dX1_setNumber_2 rfl rm_1_34 mtE79 rfl rfl rfl (Nat.le_of_ble_eq_true rfl) (Or.inr ⟨_, _, 101, rfl, Or.inl rfl⟩) k2 rfl ?_
  obtain ⟨j3, k4, h⟩ := bd h
  have k4J : Go none (Ev (d + 1)) mt80 15 [some (pvR 1 0 101), some (pvI x1), some (pvI x2)] [] (true, n, e, j3) (0, none, true, n, e, r) := by
    cases h
    exact go_vret dX1_setNumber_15 rfl rfl
  clear h
  have h := k4
  refine go_if_eq (t := 15) (pc' := 8) dX1_setNumber_5 rfl rfl (fun c6 => ?_) (fun c6 => ?_)
  · rw [if_pos (show v1 = 0 from c6)] at h
    cases h
    exact k4J
  · rw [if_neg (show ¬ (v1 = 0) from c6)] at h
    refine go_aload_n (pc' := 9) dX1_setNumber_8 rfl rfl (Nat.le_of_ble_eq_true rfl) ?_
    refine go_getR (k' := 12) (L0 := 50) (P' := 104) (pc' := 12) dX1_setNumber_9 rfl rf_1_18 rfl rfl (by omega) ?_
    refine go_iload_n (pc' := 13) dX1_setNumber_12 rfl rfl ?_
    refine go_iload_n (pc' := 14) dX1_setNumber_13 rfl rfl ?_
    obtain ⟨g5, h⟩ := gd h
    refine go_iast (pc' := 15) dX1_setNumber_14 rfl g5 ?_
    cases h
    exact k4J

set_option maxRecDepth 10000 in
theorem l_FR_cellAt (d : Nat) (n e : Nat) (σ : Hp) (x1 : Int) (r : Int) (h : f_FR_cellAt σ x1 = some r) : Ev (d + 2) 81 [pvR 1 0 101, pvI x1] (true, n, e, σ) (0, some (pvI r), true, n, e, σ) := by
  unfold f_FR_cellAt at h
  refine Ev.of mtE81 rfl rfl rfl rfl ?_
  show Go none (Ev (d + 1)) mt81 0 [some (pvR 1 0 101), some (pvI x1)] [] (true, n, e, σ) (0, some (pvI r), true, n, e, σ)
  refine go_aload_n (pc' := 1) dX1_cellAt_0 rfl rfl (Nat.le_of_ble_eq_true rfl) ?_
  refine go_iload_n (pc' := 2) dX1_cellAt_1 rfl rfl ?_
  obtain ⟨v1, k2, h⟩ := bd h
  have k2 := l_FR_has (d + 0) n e σ x1 _ k2
  refine go_call (kc := 79) (Mc := mt79) (v := some (pvI v1)) (w' := (true, n, e, σ)) (pc' := 5) (st' := [pvI v1]) [pvR 1 0 101, pvI x1] [] (Or.inl rfl) dX1_cellAt_2 rfl rm_1_34 mtE79 rfl rfl rfl (Nat.le_of_ble_eq_true rfl) (Or.inr ⟨_, _, 101, rfl, Or.inl rfl⟩) k2 rfl ?_
  obtain ⟨j3, k4, h⟩ := bd h
  have k4J : Go none (Ev (d + 1)) mt81 18 [some (pvR 1 0 101), some (pvI x1)] [pvI j3] (true, n, e, σ) (0, some (pvI r), true, n, e, σ) := by
    cases h
    exact go_iret dX1_cellAt_18 rfl rfl
  clear h
  have h := k4
  refine go_if_eq (t := 17) (pc' := 8) dX1_cellAt_5 rfl rfl (fun c6 => ?_) (fun c6 => ?_)
  · rw [if_pos (show v1 = 0 from c6)] at h
    refine go_iconst (pc' := 18) dX1_cellAt_17 rfl (r32_c rfl) ?_
    cases h
    exact k4J
  · rw [if_neg (show ¬ (v1 = 0) from c6)] at h
    refine go_aload_n (pc' := 9) dX1_cellAt_8 rfl rfl (Nat.le_of_ble_eq_true rfl) ?_
    refine go_getR (k' := 12) (L0 := 50) (P' := 102) (pc' := 12) dX1_cellAt_9 rfl rf_1_9 rfl rfl (by omega) ?_
    refine go_iload_n (pc' := 13) dX1_cellAt_12 rfl rfl ?_
    obtain ⟨g5, h⟩ := gd h
    refine go_iald (pc' := 14) dX1_cellAt_13 rfl g5 ?_
    refine go_goto (t := 18) dX1_cellAt_14 rfl ?_
    cases h
    exact k4J

set_option maxRecDepth 10000 in
theorem l_FR_measureAt (d : Nat) (n e : Nat) (σ : Hp) (x1 : Int) (r : Int) (h : f_FR_measureAt σ x1 = some r) : Ev (d + 2) 82 [pvR 1 0 101, pvI x1] (true, n, e, σ) (0, some (pvI r), true, n, e, σ) := by
  unfold f_FR_measureAt at h
  refine Ev.of mtE82 rfl rfl rfl rfl ?_
  show Go none (Ev (d + 1)) mt82 0 [some (pvR 1 0 101), some (pvI x1)] [] (true, n, e, σ) (0, some (pvI r), true, n, e, σ)
  refine go_aload_n (pc' := 1) dX1_measureAt_0 rfl rfl (Nat.le_of_ble_eq_true rfl) ?_
  refine go_iload_n (pc' := 2) dX1_measureAt_1 rfl rfl ?_
  obtain ⟨v1, k2, h⟩ := bd h
  have k2 := l_FR_has (d + 0) n e σ x1 _ k2
  refine go_call (kc := 79) (Mc := mt79) (v := some (pvI v1)) (w' := (true, n, e, σ)) (pc' := 5) (st' := [pvI v1]) [pvR 1 0 101, pvI x1] [] (Or.inl rfl) dX1_measureAt_2 rfl rm_1_34 mtE79 rfl rfl rfl (Nat.le_of_ble_eq_true rfl) (Or.inr ⟨_, _, 101, rfl, Or.inl rfl⟩) k2 rfl ?_
  obtain ⟨j3, k4, h⟩ := bd h
  have k4J : Go none (Ev (d + 1)) mt82 18 [some (pvR 1 0 101), some (pvI x1)] [pvI j3] (true, n, e, σ) (0, some (pvI r), true, n, e, σ) := by
    cases h
    exact go_iret dX1_measureAt_18 rfl rfl
  clear h
  have h := k4
  refine go_if_eq (t := 17) (pc' := 8) dX1_measureAt_5 rfl rfl (fun c6 => ?_) (fun c6 => ?_)
  · rw [if_pos (show v1 = 0 from c6)] at h
    refine go_iconst (pc' := 18) dX1_measureAt_17 rfl (r32_c rfl) ?_
    cases h
    exact k4J
  · rw [if_neg (show ¬ (v1 = 0) from c6)] at h
    refine go_aload_n (pc' := 9) dX1_measureAt_8 rfl rfl (Nat.le_of_ble_eq_true rfl) ?_
    refine go_getR (k' := 12) (L0 := 50) (P' := 103) (pc' := 12) dX1_measureAt_9 rfl rf_1_15 rfl rfl (by omega) ?_
    refine go_iload_n (pc' := 13) dX1_measureAt_12 rfl rfl ?_
    obtain ⟨g5, h⟩ := gd h
    refine go_iald (pc' := 14) dX1_measureAt_13 rfl g5 ?_
    refine go_goto (t := 18) dX1_measureAt_14 rfl ?_
    cases h
    exact k4J

set_option maxRecDepth 10000 in
theorem l_C_setNumber (d : Nat) (n e : Nat) (σ : Hp) (x1 : Int) (x2 : Int) (r : Int × Hp) (h : f_C_setNumber σ x1 x2 = some r) : Ev (d + 6) 77 [pvR 10 0 0, pvI x1, pvI x2] (true, n, e, σ) (0, some (pvI r.1), true, n, e, r.2) := by
  unfold f_C_setNumber at h
  refine Ev.of mtE77 rfl rfl rfl rfl ?_
  show Go none (Ev (d + 5)) mt77 0 [some (pvR 10 0 0), some (pvI x1), some (pvI x2)] [] (true, n, e, σ) (0, some (pvI r.1), true, n, e, r.2)
  refine go_aload_n (pc' := 1) dX10_setNumber_0 rfl rfl (Nat.le_of_ble_eq_true rfl) ?_
  refine go_getR (k' := 1) (L0 := 0) (P' := 101) (pc' := 4) dX10_setNumber_1 rfl rf_10_28 rfl rfl (by omega) ?_
  refine go_iload_n (pc' := 5) dX10_setNumber_4 rfl rfl ?_
  obtain ⟨v1, k2, h⟩ := bd h
  have k2 := l_FR_numberAt (d + 3) n e σ x1 _ k2
  refine go_call (kc := 78) (Mc := mt78) (v := some (pvI v1)) (w' := (true, n, e, σ)) (pc' := 8) (st' := [pvI v1]) [pvR 1 0 101, pvI x1] [] (Or.inl rfl) dX10_setNumber_5 rfl rm_10_225 mtE78 rfl rfl rfl (Nat.le_of_ble_eq_true rfl) (Or.inr ⟨_, _, 101, rfl, Or.inl rfl⟩) k2 rfl ?_
  refine go_iload_n (pc' := 9) dX10_setNumber_8 rfl rfl ?_
  refine go_icmp_ne (t := 14) (pc' := 12) dX10_setNumber_9 rfl rfl (fun c13 => ?_) (fun c13 => ?_)
  · rw [if_pos (show v1 ≠ x2 from c13)] at h
    refine go_aload_n (pc' := 15) dX10_setNumber_14 rfl rfl (Nat.le_of_ble_eq_true rfl) ?_
    refine go_getR (k' := 1) (L0 := 0) (P' := 101) (pc' := 18) dX10_setNumber_15 rfl rf_10_28 rfl rfl (by omega) ?_
    refine go_iload_n (pc' := 19) dX10_setNumber_18 rfl rfl ?_
    refine go_iload_n (pc' := 20) dX10_setNumber_19 rfl rfl ?_
    obtain ⟨v3, k4, h⟩ := bd h
    have k4 := l_FR_setNumber (d + 3) n e σ x1 x2 _ k4
    refine go_call (kc := 80) (Mc := mt80) (v := none) (w' := (true, n, e, v3)) (pc' := 23) (st' := []) [pvR 1 0 101, pvI x1, pvI x2] [] (Or.inl rfl) dX10_setNumber_20 rfl rm_10_362 mtE80 rfl rfl rfl (Nat.le_of_ble_eq_true rfl) (Or.inr ⟨_, _, 101, rfl, Or.inl rfl⟩) k4 rfl ?_
    refine go_aload_n (pc' := 24) dX10_setNumber_23 rfl rfl (Nat.le_of_ble_eq_true rfl) ?_
    refine go_aload_n (pc' := 25) dX10_setNumber_24 rfl rfl (Nat.le_of_ble_eq_true rfl) ?_
    refine go_getR (k' := 1) (L0 := 0) (P' := 101) (pc' := 28) dX10_setNumber_25 rfl rf_10_28 rfl rfl (by omega) ?_
    refine go_iload_n (pc' := 29) dX10_setNumber_28 rfl rfl ?_
    obtain ⟨v5, k6, h⟩ := bd h
    have k6 := l_FR_cellAt (d + 3) n e v3 x1 _ k6
    refine go_call (kc := 81) (Mc := mt81) (v := some (pvI v5)) (w' := (true, n, e, v3)) (pc' := 32) (st' := [pvI v5, pvR 10 0 0]) [pvR 1 0 101, pvI x1] [pvR 10 0 0] (Or.inl rfl) dX10_setNumber_29 rfl rm_10_364 mtE81 rfl rfl rfl (Nat.le_of_ble_eq_true rfl) (Or.inr ⟨_, _, 101, rfl, Or.inl rfl⟩) k6 rfl ?_
    refine go_aload_n (pc' := 33) dX10_setNumber_32 rfl rfl (Nat.le_of_ble_eq_true rfl) ?_
    refine go_getR (k' := 1) (L0 := 0) (P' := 101) (pc' := 36) dX10_setNumber_33 rfl rf_10_28 rfl rfl (by omega) ?_
    refine go_iload_n (pc' := 37) dX10_setNumber_36 rfl rfl ?_
    obtain ⟨v7, k8, h⟩ := bd h
    have k8 := l_FR_measureAt (d + 3) n e v3 x1 _ k8
    refine go_call (kc := 82) (Mc := mt82) (v := some (pvI v7)) (w' := (true, n, e, v3)) (pc' := 40) (st' := [pvI v7, pvI v5, pvR 10 0 0]) [pvR 1 0 101, pvI x1] [pvI v5, pvR 10 0 0] (Or.inl rfl) dX10_setNumber_37 rfl rm_10_367 mtE82 rfl rfl rfl (Nat.le_of_ble_eq_true rfl) (Or.inr ⟨_, _, 101, rfl, Or.inl rfl⟩) k8 rfl ?_
    obtain ⟨v9, k10, h⟩ := bd h
    have k10 := l_C_dropFor (d + 0) n e v3 v5 v7 _ k10
    refine go_call (kc := 65) (Mc := mt65) (v := none) (w' := (true, n, e, v9)) (pc' := 43) (st' := []) [pvR 10 0 0, pvI v5, pvI v7] [] (Or.inl rfl) dX10_setNumber_40 rfl rm_10_217 mtE65 rfl rfl rfl (Nat.le_of_ble_eq_true rfl) (Or.inr ⟨_, _, 0, rfl, Or.inl rfl⟩) k10 rfl ?_
    refine go_iconst (pc' := 44) dX10_setNumber_43 rfl (r32_c rfl) ?_
    obtain ⟨g11, h⟩ := gd h
    cases h
    exact go_zret dX10_setNumber_44 rfl g11 rfl
  · rw [if_neg (show ¬ (v1 ≠ x2) from c13)] at h
    refine go_iconst (pc' := 13) dX10_setNumber_12 rfl (r32_c rfl) ?_
    obtain ⟨g12, h⟩ := gd h
    cases h
    exact go_zret dX10_setNumber_13 rfl g12 rfl

set_option maxRecDepth 10000 in
theorem l_C_fact (d : Nat) (n e : Nat) (σ : Hp) (x1 : Int) (x2 : Int) (x3 : Int) (x4 : Int) (x5 : Int) (r : Nat × Int × Hp) (h : f_C_fact σ x1 x2 x3 x4 x5 = some r) : Ev (d + 7) 58 [pvR 10 0 0, pvI x1, pvI x2, pvI x3, pvI x4, pvI x5] (true, n, e, σ) (r.1, if r.1 = 0 then some (pvI r.2.1) else none, true, n, e + if r.1 = 0 then 0 else 1, r.2.2) := by
  unfold f_C_fact at h
  refine Ev.of mtE58 rfl rfl rfl rfl ?_
  show Go none (Ev (d + 6)) mt58 0 [some (pvR 10 0 0), some (pvI x1), some (pvI x2), some (pvI x3), some (pvI x4), some (pvI x5), none, none] [] (true, n, e, σ) (r.1, if r.1 = 0 then some (pvI r.2.1) else none, true, n, e + if r.1 = 0 then 0 else 1, r.2.2)
  refine go_aload_n (pc' := 1) dX10_fact_0 rfl rfl (Nat.le_of_ble_eq_true rfl) ?_
  refine go_iload_n (pc' := 2) dX10_fact_1 rfl rfl ?_
  refine go_iload_n (pc' := 3) dX10_fact_2 rfl rfl ?_
  refine go_iload_n (pc' := 4) dX10_fact_3 rfl rfl ?_
  refine go_iload (pc' := 6) dX10_fact_4 rfl rfl ?_
  obtain ⟨v1, k2, h⟩ := bd h
  by_cases c3 : v1.1 = 0
  · rw [if_pos c3] at h
    have k2 := l_C_existingCell (d + 3) n e σ x1 x2 x3 x4 _ k2
    rw [c3] at k2
    refine go_call (kc := 59) (Mc := mt59) (v := some (pvI v1.2)) (w' := (true, n, e, σ)) (pc' := 9) (st' := [pvI v1.2]) [pvR 10 0 0, pvI x1, pvI x2, pvI x3, pvI x4] [] (Or.inl rfl) dX10_fact_6 rfl rm_10_205 mtE59 rfl rfl rfl (Nat.le_of_ble_eq_true rfl) (Or.inr ⟨_, _, 0, rfl, Or.inl rfl⟩) k2 rfl ?_
    refine go_istore (L' := [some (pvR 10 0 0), some (pvI x1), some (pvI x2), some (pvI x3), some (pvI x4), some (pvI x5), some (pvI v1.2), none]) (pc' := 11) dX10_fact_9 rfl (Nat.le_of_ble_eq_true rfl) rfl ?_
    refine go_iload (pc' := 13) dX10_fact_11 rfl rfl ?_
    refine go_ldc (pc' := 15) dX10_fact_13 rfl (r32_c rfl) rc_10_165 ?_
    refine go_ldc (pc' := 17) dX10_fact_15 rfl (r32_c rfl) rc_10_166 ?_
    obtain ⟨v4, k5, h⟩ := bd h
    by_cases c6 : v4 = 0
    · rw [if_pos c6] at h
      have k5 := l_C_needRange (d + 5) n e σ x5 (-1000000) 1000000 _ k5
      rw [c6] at k5
      refine go_call (kc := 17) (Mc := mt17) (v := none) (w' := (true, n, e, σ)) (pc' := 20) (st' := []) [pvI x5, pvI (-1000000), pvI 1000000] [] (Or.inr (Or.inl rfl)) dX10_fact_17 rfl rm_10_70 mtE17 rfl rfl rfl (Nat.le_of_ble_eq_true rfl) (Or.inl (by decide)) k5 rfl ?_
      refine go_aload_n (pc' := 21) dX10_fact_20 rfl rfl (Nat.le_of_ble_eq_true rfl) ?_
      refine go_getR (k' := 7) (L0 := 0) (P' := 1) (pc' := 24) dX10_fact_21 rfl rf_10_12 rfl rfl (by omega) ?_
      refine go_iload (pc' := 26) dX10_fact_24 rfl rfl ?_
      obtain ⟨v7, k8, h⟩ := bd h
      have k8 := l_S_isPlain (d + 3) n e σ v1.2 _ k8
      refine go_call (kc := 60) (Mc := mt60) (v := some (pvI v7)) (w' := (true, n, e, σ)) (pc' := 29) (st' := [pvI v7]) [pvR 7 0 1, pvI v1.2] [] (Or.inl rfl) dX10_fact_26 rfl rm_10_209 mtE60 rfl rfl rfl (Nat.le_of_ble_eq_true rfl) (Or.inr ⟨_, _, 1, rfl, Or.inl rfl⟩) k8 rfl ?_
      obtain ⟨j9, k10, h⟩ := bd h
      have k10J : Go none (Ev (d + 6)) mt58 50 [some (pvR 10 0 0), some (pvI x1), some (pvI x2), some (pvI x3), some (pvI x4), some (pvI x5), some (pvI v1.2), none] [pvI j9] (true, n, e, σ) (r.1, if r.1 = 0 then some (pvI r.2.1) else none, true, n, e + if r.1 = 0 then 0 else 1, r.2.2) := by
        obtain ⟨v14, k15, h⟩ := bd h
        by_cases c16 : v14 = 0
        · rw [if_pos c16] at h
          have k15 := l_C_need (d + 5) n e σ j9 _ k15
          rw [c16] at k15
          refine go_call (kc := 19) (Mc := mt19) (v := none) (w' := (true, n, e, σ)) (pc' := 53) (st' := []) [pvI j9] [] (Or.inr (Or.inl rfl)) dX10_fact_50 rfl rm_10_84 mtE19 rfl rfl rfl (Nat.le_of_ble_eq_true rfl) (Or.inl (by decide)) k15 rfl ?_
          refine go_aload_n (pc' := 54) dX10_fact_53 rfl rfl (Nat.le_of_ble_eq_true rfl) ?_
          refine go_getR (k' := 1) (L0 := 0) (P' := 101) (pc' := 57) dX10_fact_54 rfl rf_10_28 rfl rfl (by omega) ?_
          refine go_iload (pc' := 59) dX10_fact_57 rfl rfl ?_
          refine go_iload (pc' := 61) dX10_fact_59 rfl rfl ?_
          obtain ⟨v17, k18, h⟩ := bd h
          have k18 := l_FR_find (d + 5) n e σ v1.2 x4 _ k18
          refine go_call (kc := 63) (Mc := mt63) (v := some (pvI v17)) (w' := (true, n, e, σ)) (pc' := 64) (st' := [pvI v17]) [pvR 1 0 101, pvI v1.2, pvI x4] [] (Or.inl rfl) dX10_fact_61 rfl rm_10_211 mtE63 rfl rfl rfl (Nat.le_of_ble_eq_true rfl) (Or.inr ⟨_, _, 101, rfl, Or.inl rfl⟩) k18 rfl ?_
          refine go_istore (L' := [some (pvR 10 0 0), some (pvI x1), some (pvI x2), some (pvI x3), some (pvI x4), some (pvI x5), some (pvI v1.2), some (pvI v17)]) (pc' := 66) dX10_fact_64 rfl (Nat.le_of_ble_eq_true rfl) rfl ?_
          refine go_iload (pc' := 68) dX10_fact_66 rfl rfl ?_
          refine go_iconst (pc' := 69) dX10_fact_68 rfl (r32_c rfl) ?_
          obtain ⟨j19, k20, h⟩ := bd h
          have k20J : Go none (Ev (d + 6)) mt58 89 [some (pvR 10 0 0), some (pvI x1), some (pvI x2), some (pvI x3), some (pvI x4), some (pvI x5), some (pvI v1.2), some (pvI v17)] [pvI j19] (true, n, e, σ) (r.1, if r.1 = 0 then some (pvI r.2.1) else none, true, n, e + if r.1 = 0 then 0 else 1, r.2.2) := by
            obtain ⟨v22, k23, h⟩ := bd h
            by_cases c24 : v22 = 0
            · rw [if_pos c24] at h
              have k23 := l_C_need (d + 5) n e σ j19 _ k23
              rw [c24] at k23
              refine go_call (kc := 19) (Mc := mt19) (v := none) (w' := (true, n, e, σ)) (pc' := 92) (st' := []) [pvI j19] [] (Or.inr (Or.inl rfl)) dX10_fact_89 rfl rm_10_84 mtE19 rfl rfl rfl (Nat.le_of_ble_eq_true rfl) (Or.inl (by decide)) k23 rfl ?_
              refine go_iload (pc' := 94) dX10_fact_92 rfl rfl ?_
              refine go_iconst (pc' := 95) dX10_fact_94 rfl (r32_c rfl) ?_
              obtain ⟨j25, k26, h⟩ := bd h
              have k26J : Go none (Ev (d + 6)) mt58 131 [some (pvR 10 0 0), some (pvI x1), some (pvI x2), some (pvI x3), some (pvI x4), some (pvI x5), some (pvI v1.2), some (pvI v17)] [] (true, n, e, j25) (r.1, if r.1 = 0 then some (pvI r.2.1) else none, true, n, e + if r.1 = 0 then 0 else 1, r.2.2) := by
                refine go_aload_n (pc' := 132) dX10_fact_131 rfl rfl (Nat.le_of_ble_eq_true rfl) ?_
                refine go_getR (k' := 1) (L0 := 0) (P' := 101) (pc' := 135) dX10_fact_132 rfl rf_10_28 rfl rfl (by omega) ?_
                refine go_getI (pc' := 138) dX10_fact_135 rfl rf_10_214 rfl ?_
                cases h
                exact go_iret dX10_fact_138 rfl rfl
              clear h
              have h := k26
              refine go_icmp_ne (t := 122) (pc' := 98) dX10_fact_95 rfl rfl (fun c33 => ?_) (fun c33 => ?_)
              · rw [if_pos (show v17 ≠ (-1) from c33)] at h
                refine go_aload_n (pc' := 123) dX10_fact_122 rfl rfl (Nat.le_of_ble_eq_true rfl) ?_
                refine go_iload (pc' := 125) dX10_fact_123 rfl rfl ?_
                refine go_iload (pc' := 127) dX10_fact_125 rfl rfl ?_
                obtain ⟨v27, k28, h⟩ := bd h
                have k28 := l_C_setNumber (d + 0) n e σ v17 x5 _ k28
                refine go_call (kc := 77) (Mc := mt77) (v := some (pvI v27.1)) (w' := (true, n, e, v27.2)) (pc' := 130) (st' := [pvI v27.1]) [pvR 10 0 0, pvI v17, pvI x5] [] (Or.inl rfl) dX10_fact_127 rfl rm_10_221 mtE77 rfl rfl rfl (Nat.le_of_ble_eq_true rfl) (Or.inr ⟨_, _, 0, rfl, Or.inl rfl⟩) k28 rfl ?_
                refine go_pop (pc' := 131) dX10_fact_130 rfl (Nat.ne_of_beq_eq_false rfl) ?_
                cases h
                exact k26J
              · rw [if_neg (show ¬ (v17 ≠ (-1)) from c33)] at h
                refine go_aload_n (pc' := 99) dX10_fact_98 rfl rfl (Nat.le_of_ble_eq_true rfl) ?_
                refine go_getR (k' := 1) (L0 := 0) (P' := 101) (pc' := 102) dX10_fact_99 rfl rf_10_28 rfl rfl (by omega) ?_
                refine go_iload (pc' := 104) dX10_fact_102 rfl rfl ?_
                refine go_iload (pc' := 106) dX10_fact_104 rfl rfl ?_
                refine go_iload (pc' := 108) dX10_fact_106 rfl rfl ?_
                obtain ⟨v29, k30, h⟩ := bd h
                have k30 := l_FR_add (d + 5) n e σ v1.2 x4 x5 _ k30
                refine go_call (kc := 64) (Mc := mt64) (v := none) (w' := (true, n, e, v29)) (pc' := 111) (st' := []) [pvR 1 0 101, pvI v1.2, pvI x4, pvI x5] [] (Or.inl rfl) dX10_fact_108 rfl rm_10_215 mtE64 rfl rfl rfl (Nat.le_of_ble_eq_true rfl) (Or.inr ⟨_, _, 101, rfl, Or.inl rfl⟩) k30 rfl ?_
                refine go_aload_n (pc' := 112) dX10_fact_111 rfl rfl (Nat.le_of_ble_eq_true rfl) ?_
                refine go_iload (pc' := 114) dX10_fact_112 rfl rfl ?_
                refine go_iload (pc' := 116) dX10_fact_114 rfl rfl ?_
                obtain ⟨v31, k32, h⟩ := bd h
                have k32 := l_C_dropFor (d + 1) n e v29 v1.2 x4 _ k32
                refine go_call (kc := 65) (Mc := mt65) (v := none) (w' := (true, n, e, v31)) (pc' := 119) (st' := []) [pvR 10 0 0, pvI v1.2, pvI x4] [] (Or.inl rfl) dX10_fact_116 rfl rm_10_217 mtE65 rfl rfl rfl (Nat.le_of_ble_eq_true rfl) (Or.inr ⟨_, _, 0, rfl, Or.inl rfl⟩) k32 rfl ?_
                refine go_goto (t := 131) dX10_fact_119 rfl ?_
                cases h
                exact k26J
            · rw [if_neg c24] at h
              obtain ⟨g34, h⟩ := gd h
              cases h
              have k23 := l_C_need (d + 5) n e σ j19 _ k23
              simp only [if_neg c24] at k23 ⊢
              exact go_callX (kc := 19) (Mc := mt19) [pvI j19] [] (Or.inr rfl) dX10_fact_89 rm_10_84 mtE19 rfl rfl rfl (Nat.le_of_ble_eq_true rfl) (Or.inl (by decide)) rfl c24 g34 k23 rfl
          clear h
          have h := k20
          refine go_icmp_ne (t := 84) (pc' := 72) dX10_fact_69 rfl rfl (fun c35 => ?_) (fun c35 => ?_)
          · rw [if_pos (show v17 ≠ (-1) from c35)] at h
            refine go_iconst (pc' := 85) dX10_fact_84 rfl (r32_c rfl) ?_
            refine go_goto (t := 89) dX10_fact_85 rfl ?_
            cases h
            exact k20J
          · rw [if_neg (show ¬ (v17 ≠ (-1)) from c35)] at h
            refine go_aload_n (pc' := 73) dX10_fact_72 rfl rfl (Nat.le_of_ble_eq_true rfl) ?_
            refine go_getR (k' := 1) (L0 := 0) (P' := 101) (pc' := 76) dX10_fact_73 rfl rf_10_28 rfl rfl (by omega) ?_
            refine go_getI (pc' := 79) dX10_fact_76 rfl rf_10_214 rfl ?_
            refine go_bipush (pc' := 81) dX10_fact_79 rfl (r32_c rfl) (by decide) ?_
            refine go_icmp_ge (t := 88) (pc' := 84) dX10_fact_81 rfl rfl (fun c21 => ?_) (fun c21 => ?_)
            · rw [if_pos (show 50 ≤ (σ 101 0) from c21)] at h
              refine go_iconst (pc' := 89) dX10_fact_88 rfl (r32_c rfl) ?_
              cases h
              exact k20J
            · rw [if_neg (show ¬ (50 ≤ (σ 101 0)) from c21)] at h
              refine go_iconst (pc' := 85) dX10_fact_84 rfl (r32_c rfl) ?_
              refine go_goto (t := 89) dX10_fact_85 rfl ?_
              cases h
              exact k20J
        · rw [if_neg c16] at h
          obtain ⟨g36, h⟩ := gd h
          cases h
          have k15 := l_C_need (d + 5) n e σ j9 _ k15
          simp only [if_neg c16] at k15 ⊢
          exact go_callX (kc := 19) (Mc := mt19) [pvI j9] [] (Or.inr rfl) dX10_fact_50 rm_10_84 mtE19 rfl rfl rfl (Nat.le_of_ble_eq_true rfl) (Or.inl (by decide)) rfl c16 g36 k15 rfl
      clear h
      have h := k10
      refine go_if_eq (t := 49) (pc' := 32) dX10_fact_29 rfl rfl (fun c37 => ?_) (fun c37 => ?_)
      · rw [if_pos (show v7 = 0 from c37)] at h
        refine go_iconst (pc' := 50) dX10_fact_49 rfl (r32_c rfl) ?_
        cases h
        exact k10J
      · rw [if_neg (show ¬ (v7 = 0) from c37)] at h
        refine go_aload_n (pc' := 33) dX10_fact_32 rfl rfl (Nat.le_of_ble_eq_true rfl) ?_
        refine go_getR (k' := 4) (L0 := 0) (P' := 95) (pc' := 36) dX10_fact_33 rfl rf_10_21 rfl rfl (by omega) ?_
        refine go_iload (pc' := 38) dX10_fact_36 rfl rfl ?_
        obtain ⟨v11, k12, h⟩ := bd h
        have k12 := l_MS_kindOf (d + 4) n e σ x4 _ k12
        refine go_call (kc := 62) (Mc := mt62) (v := some (pvI v11)) (w' := (true, n, e, σ)) (pc' := 41) (st' := [pvI v11]) [pvR 4 0 95, pvI x4] [] (Or.inl rfl) dX10_fact_38 rfl rm_10_210 mtE62 rfl rfl rfl (Nat.le_of_ble_eq_true rfl) (Or.inr ⟨_, _, 95, rfl, Or.inl rfl⟩) k12 rfl ?_
        refine go_iconst (pc' := 42) dX10_fact_41 rfl (r32_c rfl) ?_
        refine go_icmp_eq (t := 49) (pc' := 45) dX10_fact_42 rfl rfl (fun c13 => ?_) (fun c13 => ?_)
        · rw [if_pos (show v11 = 3 from c13)] at h
          refine go_iconst (pc' := 50) dX10_fact_49 rfl (r32_c rfl) ?_
          cases h
          exact k10J
        · rw [if_neg (show ¬ (v11 = 3) from c13)] at h
          refine go_iconst (pc' := 46) dX10_fact_45 rfl (r32_c rfl) ?_
          refine go_goto (t := 50) dX10_fact_46 rfl ?_
          cases h
          exact k10J
    · rw [if_neg c6] at h
      obtain ⟨g38, h⟩ := gd h
      cases h
      have k5 := l_C_needRange (d + 5) n e σ x5 (-1000000) 1000000 _ k5
      simp only [if_neg c6] at k5 ⊢
      exact go_callX (kc := 17) (Mc := mt17) [pvI x5, pvI (-1000000), pvI 1000000] [] (Or.inr rfl) dX10_fact_17 rm_10_70 mtE17 rfl rfl rfl (Nat.le_of_ble_eq_true rfl) (Or.inl (by decide)) rfl c6 g38 k5 rfl
  · rw [if_neg c3] at h
    obtain ⟨g39, h⟩ := gd h
    cases h
    have k2 := l_C_existingCell (d + 3) n e σ x1 x2 x3 x4 _ k2
    simp only [if_neg c3] at k2 ⊢
    exact go_callX (kc := 59) (Mc := mt59) [pvR 10 0 0, pvI x1, pvI x2, pvI x3, pvI x4] [] (Or.inl rfl) dX10_fact_6 rm_10_205 mtE59 rfl rfl rfl (Nat.le_of_ble_eq_true rfl) (Or.inr ⟨_, _, 0, rfl, Or.inl rfl⟩) rfl c3 g39 k2 rfl

set_option maxRecDepth 10000 in
theorem l_L_facts (d : Nat) (n e : Nat) (σ : Hp) (x2 : Int) (x3 : Int) (x4 : Int) (x5 : Int) (x6 : Int) (r : Int × Nat × Hp) (h : f_L_facts σ e x2 x3 x4 x5 x6 = some r) : Ev (d + 8) 57 [pvR 10 0 0, pvI x2, pvI x3, pvI x4, pvI x5, pvI x6] (true, n, e, σ) (0, some (pvI r.1), true, n, r.2.1, r.2.2) := by
  unfold f_L_facts at h
  refine Ev.of mtE57 rfl rfl rfl rfl ?_
  show Go none (Ev (d + 7)) mt57 0 [some (pvR 10 0 0), some (pvI x2), some (pvI x3), some (pvI x4), some (pvI x5), some (pvI x6), none] [] (true, n, e, σ) (0, some (pvI r.1), true, n, r.2.1, r.2.2)
  refine go_aload_n (pc' := 1) dL_facts_0 rfl rfl (Nat.le_of_ble_eq_true rfl) ?_
  refine go_iload_n (pc' := 2) dL_facts_1 rfl rfl ?_
  refine go_iload_n (pc' := 3) dL_facts_2 rfl rfl ?_
  refine go_iload_n (pc' := 4) dL_facts_3 rfl rfl ?_
  refine go_iload (pc' := 6) dL_facts_4 rfl rfl ?_
  refine go_iload (pc' := 8) dL_facts_6 rfl rfl ?_
  obtain ⟨v1, k2, h⟩ := bd h
  by_cases c3 : v1.1 = 0
  · rw [if_pos c3] at h
    have k2 := l_C_fact (d + 0) n e σ x2 x3 x4 x5 x6 _ k2
    rw [c3] at k2
    refine go_call (kc := 58) (Mc := mt58) (v := some (pvI v1.2.1)) (w' := (true, n, e, v1.2.2)) (pc' := 11) (st' := [pvI v1.2.1]) [pvR 10 0 0, pvI x2, pvI x3, pvI x4, pvI x5, pvI x6] [] (Or.inl rfl) dL_facts_8 rfl rm_12_38 mtE58 rfl rfl rfl (Nat.le_of_ble_eq_true rfl) (Or.inr ⟨_, _, 0, rfl, Or.inl rfl⟩) k2 rfl ?_
    cases h
    exact go_iret dL_facts_11 rfl rfl
  · rw [if_neg c3] at h
    by_cases c4 : v1.1 = 1
    · rw [if_pos c4] at h
      have k2 := l_C_fact (d + 0) n e σ x2 x3 x4 x5 x6 _ k2
      rw [c4] at k2
      refine go_callH (x := 1) (kc := 58) (Mc := mt58) (h := 12) (i := 6) (ln := 2) (w' := (true, n, (e + 1), v1.2.2)) (pc' := 14) (L' := [some (pvR 10 0 0), some (pvI x2), some (pvI x3), some (pvI x4), some (pvI x5), some (pvI x6), none]) [pvR 10 0 0, pvI x2, pvI x3, pvI x4, pvI x5, pvI x6] [] (Or.inl rfl) dL_facts_8 rm_12_38 mtE58 rfl rfl rfl (Nat.le_of_ble_eq_true rfl) (Or.inr ⟨_, _, 0, rfl, Or.inl rfl⟩) (by decide +kernel) (by decide) (by decide) (Or.inl ⟨dL_facts_12, rfl⟩) (Nat.le_of_ble_eq_true rfl) rfl rfl k2 ?_
      refine go_bipush (pc' := 16) dL_facts_14 rfl (r32_c rfl) (by decide) ?_
      cases h
      exact go_iret dL_facts_16 rfl rfl
    · rw [if_neg c4] at h
      by_cases c5 : v1.1 = 2
      · rw [if_pos c5] at h
        have k2 := l_C_fact (d + 0) n e σ x2 x3 x4 x5 x6 _ k2
        rw [c5] at k2
        refine go_callH (x := 2) (kc := 58) (Mc := mt58) (h := 17) (i := 6) (ln := 2) (w' := (true, n, (e + 1), v1.2.2)) (pc' := 19) (L' := [some (pvR 10 0 0), some (pvI x2), some (pvI x3), some (pvI x4), some (pvI x5), some (pvI x6), none]) [pvR 10 0 0, pvI x2, pvI x3, pvI x4, pvI x5, pvI x6] [] (Or.inl rfl) dL_facts_8 rm_12_38 mtE58 rfl rfl rfl (Nat.le_of_ble_eq_true rfl) (Or.inr ⟨_, _, 0, rfl, Or.inl rfl⟩) (by decide +kernel) (by decide) (by decide) (Or.inl ⟨dL_facts_17, rfl⟩) (Nat.le_of_ble_eq_true rfl) rfl rfl k2 ?_
        refine go_bipush (pc' := 21) dL_facts_19 rfl (r32_c rfl) (by decide) ?_
        cases h
        exact go_iret dL_facts_21 rfl rfl
      · rw [if_neg c5] at h
        by_cases c6 : v1.1 = 3
        · rw [if_pos c6] at h
          have k2 := l_C_fact (d + 0) n e σ x2 x3 x4 x5 x6 _ k2
          rw [c6] at k2
          refine go_callH (x := 3) (kc := 58) (Mc := mt58) (h := 22) (i := 6) (ln := 2) (w' := (true, n, (e + 1), v1.2.2)) (pc' := 24) (L' := [some (pvR 10 0 0), some (pvI x2), some (pvI x3), some (pvI x4), some (pvI x5), some (pvI x6), none]) [pvR 10 0 0, pvI x2, pvI x3, pvI x4, pvI x5, pvI x6] [] (Or.inl rfl) dL_facts_8 rm_12_38 mtE58 rfl rfl rfl (Nat.le_of_ble_eq_true rfl) (Or.inr ⟨_, _, 0, rfl, Or.inl rfl⟩) (by decide +kernel) (by decide) (by decide) (Or.inl ⟨dL_facts_22, rfl⟩) (Nat.le_of_ble_eq_true rfl) rfl rfl k2 ?_
          refine go_bipush (pc' := 26) dL_facts_24 rfl (r32_c rfl) (by decide) ?_
          cases h
          exact go_iret dL_facts_26 rfl rfl
        · rw [if_neg c6] at h
          cases h

set_option maxRecDepth 10000 in
theorem l_D_parentOf (d : Nat) (n e : Nat) (σ : Hp) (p : Nat) (x1 : Int) (r : Int) (h : f_D_parentOf σ p x1 = some r) : Ev (d + 2) 88 [pvR 0 0 p, pvI x1] (true, n, e, σ) (0, some (pvI r), true, n, e, σ) := by
  unfold f_D_parentOf at h
  refine Ev.of mtE88 rfl rfl rfl rfl ?_
  show Go none (Ev (d + 1)) mt88 0 [some (pvR 0 0 p), some (pvI x1)] [] (true, n, e, σ) (0, some (pvI r), true, n, e, σ)
  refine go_aload_n (pc' := 1) dX0_parentOf_0 rfl rfl (Nat.le_of_ble_eq_true rfl) ?_
  refine go_iload_n (pc' := 2) dX0_parentOf_1 rfl rfl ?_
  obtain ⟨v1, k2, h⟩ := bd h
  have k2 := l_D_has (d + 0) n e σ p x1 _ k2
  refine go_call (kc := 16) (Mc := mt16) (v := some (pvI v1)) (w' := (true, n, e, σ)) (pc' := 5) (st' := [pvI v1]) [pvR 0 0 p, pvI x1] [] (Or.inl rfl) dX0_parentOf_2 rfl rm_0_65 mtE16 rfl rfl rfl (Nat.le_of_ble_eq_true rfl) (Or.inr ⟨_, _, p, rfl, Or.inl rfl⟩) k2 rfl ?_
  obtain ⟨j3, k4, h⟩ := bd h
  have k4J : Go none (Ev (d + 1)) mt88 27 [some (pvR 0 0 p), some (pvI x1)] [pvI j3] (true, n, e, σ) (0, some (pvI r), true, n, e, σ) := by
    cases h
    exact go_iret dX0_parentOf_27 rfl rfl
  clear h
  have h := k4
  refine go_if_eq (t := 26) (pc' := 8) dX0_parentOf_5 rfl rfl (fun c8 => ?_) (fun c8 => ?_)
  · rw [if_pos (show v1 = 0 from c8)] at h
    refine go_iconst (pc' := 27) dX0_parentOf_26 rfl (r32_c rfl) ?_
    cases h
    exact k4J
  · rw [if_neg (show ¬ (v1 = 0) from c8)] at h
    refine go_aload_n (pc' := 9) dX0_parentOf_8 rfl rfl (Nat.le_of_ble_eq_true rfl) ?_
    refine go_getR (k' := 12) (L0 := 12) (P' := (p + 5)) (pc' := 12) dX0_parentOf_9 rfl rf_0_22 rfl rfl (by omega) ?_
    refine go_iload_n (pc' := 13) dX0_parentOf_12 rfl rfl ?_
    obtain ⟨g5, h⟩ := gd h
    refine go_iald (pc' := 14) dX0_parentOf_13 rfl g5 ?_
    refine go_if_ne (t := 26) (pc' := 17) dX0_parentOf_14 rfl rfl (fun c7 => ?_) (fun c7 => ?_)
    · rw [if_pos (show (σ (p + 5) x1) ≠ 0 from c7)] at h
      refine go_iconst (pc' := 27) dX0_parentOf_26 rfl (r32_c rfl) ?_
      cases h
      exact k4J
    · rw [if_neg (show ¬ ((σ (p + 5) x1) ≠ 0) from c7)] at h
      refine go_aload_n (pc' := 18) dX0_parentOf_17 rfl rfl (Nat.le_of_ble_eq_true rfl) ?_
      refine go_getR (k' := 12) (L0 := 12) (P' := (p + 13)) (pc' := 21) dX0_parentOf_18 rfl rf_0_51 rfl rfl (by omega) ?_
      refine go_iload_n (pc' := 22) dX0_parentOf_21 rfl rfl ?_
      obtain ⟨g6, h⟩ := gd h
      refine go_iald (pc' := 23) dX0_parentOf_22 rfl g6 ?_
      refine go_goto (t := 27) dX0_parentOf_23 rfl ?_
      cases h
      exact k4J

set_option maxRecDepth 10000 in
theorem l_D_isLeaf_2 (d : Nat) (n : Nat) (e : Nat) (σ : Hp) (p : Nat) (x1 : Int) : ∀ (F : Nat) (y1 : Int) (r : Int), f_D_isLeaf_2 σ p x1 F y1 = some r → Go none (Ev (d + 2)) mt87 2 [some (pvR 0 0 p), some (pvI x1), some (pvI y1)] [] (true, n, e, σ) (0, some (pvI r), true, n, e, σ) := by
  intro F
  induction F with
  | zero =>
    intro _ _ h
    rw [f_D_isLeaf_2] at h
    cases h
  | succ F ih =>
    intro y1 r h
    rw [f_D_isLeaf_2] at h
    refine go_iload_n (pc' := 3) dX0_isLeaf_2 rfl rfl ?_
    refine go_aload_n (pc' := 4) dX0_isLeaf_3 rfl rfl (Nat.le_of_ble_eq_true rfl) ?_
    refine go_getI (pc' := 7) dX0_isLeaf_4 rfl rf_0_9 rfl ?_
    refine go_icmp_ge (t := 27) (pc' := 10) dX0_isLeaf_7 rfl rfl (fun c8 => ?_) (fun c8 => ?_)
    · rw [if_pos (show (σ p 0) ≤ y1 from c8)] at h
      refine go_iconst (pc' := 28) dX0_isLeaf_27 rfl (r32_c rfl) ?_
      obtain ⟨g2, h⟩ := gd h
      cases h
      exact go_zret dX0_isLeaf_28 rfl g2 rfl
    · rw [if_neg (show ¬ ((σ p 0) ≤ y1) from c8)] at h
      refine go_aload_n (pc' := 11) dX0_isLeaf_10 rfl rfl (Nat.le_of_ble_eq_true rfl) ?_
      refine go_iload_n (pc' := 12) dX0_isLeaf_11 rfl rfl ?_
      obtain ⟨v3, k4, h⟩ := bd h
      have k4 := l_D_parentOf (d + 0) n e σ p y1 _ k4
      refine go_call (kc := 88) (Mc := mt88) (v := some (pvI v3)) (w' := (true, n, e, σ)) (pc' := 15) (st' := [pvI v3]) [pvR 0 0 p, pvI y1] [] (Or.inl rfl) dX0_isLeaf_12 rfl rm_0_124 mtE88 rfl rfl rfl (Nat.le_of_ble_eq_true rfl) (Or.inr ⟨_, _, p, rfl, Or.inl rfl⟩) k4 rfl ?_
      refine go_iload_n (pc' := 16) dX0_isLeaf_15 rfl rfl ?_
      refine go_icmp_ne (t := 21) (pc' := 19) dX0_isLeaf_16 rfl rfl (fun c7 => ?_) (fun c7 => ?_)
      · rw [if_pos (show v3 ≠ x1 from c7)] at h
        obtain ⟨g5, h⟩ := gd h
        refine go_iinc (L' := [some (pvR 0 0 p), some (pvI x1), some (pvI (y1 + 1))]) (pc' := 24) dX0_isLeaf_21 rfl rfl g5 rfl ?_
        refine go_goto (t := 2) dX0_isLeaf_24 rfl ?_
        exact ih (y1 + 1) _ h
      · rw [if_neg (show ¬ (v3 ≠ x1) from c7)] at h
        refine go_iconst (pc' := 20) dX0_isLeaf_19 rfl (r32_c rfl) ?_
        obtain ⟨g6, h⟩ := gd h
        cases h
        exact go_zret dX0_isLeaf_20 rfl g6 rfl

set_option maxRecDepth 10000 in
theorem l_D_isLeaf (d : Nat) (n e : Nat) (σ : Hp) (p : Nat) (x1 : Int) (r : Int) (h : f_D_isLeaf σ p x1 = some r) : Ev (d + 3) 87 [pvR 0 0 p, pvI x1] (true, n, e, σ) (0, some (pvI r), true, n, e, σ) := by
  unfold f_D_isLeaf at h
  refine Ev.of mtE87 rfl rfl rfl rfl ?_
  show Go none (Ev (d + 2)) mt87 0 [some (pvR 0 0 p), some (pvI x1), none] [] (true, n, e, σ) (0, some (pvI r), true, n, e, σ)
  refine go_iconst (pc' := 1) dX0_isLeaf_0 rfl (r32_c rfl) ?_
  refine go_istore_n (L' := [some (pvR 0 0 p), some (pvI x1), some (pvI 1)]) (pc' := 2) dX0_isLeaf_1 rfl (Nat.le_of_ble_eq_true rfl) rfl ?_
  exact l_D_isLeaf_2 d n e σ p x1 zFuel 1 _ h

set_option maxRecDepth 10000 in
theorem l_D_isAsked (d : Nat) (n e : Nat) (σ : Hp) (p : Nat) (x1 : Int) (x2 : Int) (x3 : Int) (r : Int) (h : f_D_isAsked σ p x1 x2 x3 = some r) : Ev (d + 4) 86 [pvR 0 0 p, pvI x1, pvI x2, pvI x3] (true, n, e, σ) (0, some (pvI r), true, n, e, σ) := by
  unfold f_D_isAsked at h
  refine Ev.of mtE86 rfl rfl rfl rfl ?_
  show Go none (Ev (d + 3)) mt86 0 [some (pvR 0 0 p), some (pvI x1), some (pvI x2), some (pvI x3)] [] (true, n, e, σ) (0, some (pvI r), true, n, e, σ)
  refine go_iload_n (pc' := 1) dX0_isAsked_0 rfl rfl ?_
  refine go_if_ne (t := 20) (pc' := 4) dX0_isAsked_1 rfl rfl (fun c26 => ?_) (fun c26 => ?_)
  · rw [if_pos (show x1 ≠ 0 from c26)] at h
    refine go_iload_n (pc' := 21) dX0_isAsked_20 rfl rfl ?_
    refine go_iconst (pc' := 22) dX0_isAsked_21 rfl (r32_c rfl) ?_
    refine go_icmp_ne (t := 41) (pc' := 25) dX0_isAsked_22 rfl rfl (fun c20 => ?_) (fun c20 => ?_)
    · rw [if_pos (show x1 ≠ 2 from c20)] at h
      refine go_aload_n (pc' := 42) dX0_isAsked_41 rfl rfl (Nat.le_of_ble_eq_true rfl) ?_
      refine go_iload_n (pc' := 43) dX0_isAsked_42 rfl rfl ?_
      obtain ⟨v1, k2, h⟩ := bd h
      have k2 := l_D_has (d + 2) n e σ p x2 _ k2
      refine go_call (kc := 16) (Mc := mt16) (v := some (pvI v1)) (w' := (true, n, e, σ)) (pc' := 46) (st' := [pvI v1]) [pvR 0 0 p, pvI x2] [] (Or.inl rfl) dX0_isAsked_43 rfl rm_0_65 mtE16 rfl rfl rfl (Nat.le_of_ble_eq_true rfl) (Or.inr ⟨_, _, p, rfl, Or.inl rfl⟩) k2 rfl ?_
      obtain ⟨j3, k4, h⟩ := bd h
      have k4J : Go none (Ev (d + 3)) mt86 80 [some (pvR 0 0 p), some (pvI x1), some (pvI x2), some (pvI x3)] [pvI j3] (true, n, e, σ) (0, some (pvI r), true, n, e, σ) := by
        obtain ⟨g13, h⟩ := gd h
        cases h
        exact go_zret dX0_isAsked_80 rfl g13 rfl
      clear h
      have h := k4
      refine go_if_eq (t := 79) (pc' := 49) dX0_isAsked_46 rfl rfl (fun c14 => ?_) (fun c14 => ?_)
      · rw [if_pos (show v1 = 0 from c14)] at h
        refine go_iconst (pc' := 80) dX0_isAsked_79 rfl (r32_c rfl) ?_
        cases h
        exact k4J
      · rw [if_neg (show ¬ (v1 = 0) from c14)] at h
        refine go_aload_n (pc' := 50) dX0_isAsked_49 rfl rfl (Nat.le_of_ble_eq_true rfl) ?_
        refine go_iload_n (pc' := 51) dX0_isAsked_50 rfl rfl ?_
        obtain ⟨v5, k6, h⟩ := bd h
        have k6 := l_D_isLeaf (d + 0) n e σ p x3 _ k6
        refine go_call (kc := 87) (Mc := mt87) (v := some (pvI v5)) (w' := (true, n, e, σ)) (pc' := 54) (st' := [pvI v5]) [pvR 0 0 p, pvI x3] [] (Or.inl rfl) dX0_isAsked_51 rfl rm_0_121 mtE87 rfl rfl rfl (Nat.le_of_ble_eq_true rfl) (Or.inr ⟨_, _, p, rfl, Or.inl rfl⟩) k6 rfl ?_
        refine go_if_eq (t := 79) (pc' := 57) dX0_isAsked_54 rfl rfl (fun c12 => ?_) (fun c12 => ?_)
        · rw [if_pos (show v5 = 0 from c12)] at h
          refine go_iconst (pc' := 80) dX0_isAsked_79 rfl (r32_c rfl) ?_
          cases h
          exact k4J
        · rw [if_neg (show ¬ (v5 = 0) from c12)] at h
          refine go_aload_n (pc' := 58) dX0_isAsked_57 rfl rfl (Nat.le_of_ble_eq_true rfl) ?_
          refine go_getR (k' := 16) (L0 := 13) (P' := (p + 16)) (pc' := 61) dX0_isAsked_58 rfl rf_0_62 rfl rfl (by omega) ?_
          refine go_bipush (pc' := 63) dX0_isAsked_61 rfl (r32_c rfl) (by decide) ?_
          obtain ⟨g7, h⟩ := gd h
          refine go_rald (pc' := 64) dX0_isAsked_63 rfl g7 ?_
          refine go_iload_n (pc' := 65) dX0_isAsked_64 rfl rfl ?_
          refine go_bipush (pc' := 67) dX0_isAsked_65 rfl (r32_c rfl) (by decide) ?_
          obtain ⟨g8, h⟩ := gd h
          refine go_imul (pc' := 68) dX0_isAsked_67 rfl g8 ?_
          refine go_iload_n (pc' := 69) dX0_isAsked_68 rfl rfl ?_
          obtain ⟨g9, h⟩ := gd h
          refine go_iadd (pc' := 70) dX0_isAsked_69 rfl g9 ?_
          obtain ⟨g10, h⟩ := gd h
          refine go_iald (pc' := 71) dX0_isAsked_70 rfl g10 ?_
          refine go_iconst (pc' := 72) dX0_isAsked_71 rfl (r32_c rfl) ?_
          refine go_icmp_eq (t := 79) (pc' := 75) dX0_isAsked_72 rfl rfl (fun c11 => ?_) (fun c11 => ?_)
          · rw [if_pos (show (σ ((p + 16) + 1 + Int.toNat 12) ((x3 * 12) + x2)) = 2 from c11)] at h
            refine go_iconst (pc' := 80) dX0_isAsked_79 rfl (r32_c rfl) ?_
            cases h
            exact k4J
          · rw [if_neg (show ¬ ((σ ((p + 16) + 1 + Int.toNat 12) ((x3 * 12) + x2)) = 2) from c11)] at h
            refine go_iconst (pc' := 76) dX0_isAsked_75 rfl (r32_c rfl) ?_
            refine go_goto (t := 80) dX0_isAsked_76 rfl ?_
            cases h
            exact k4J
    · rw [if_neg (show ¬ (x1 ≠ 2) from c20)] at h
      refine go_aload_n (pc' := 26) dX0_isAsked_25 rfl rfl (Nat.le_of_ble_eq_true rfl) ?_
      refine go_getR (k' := 12) (L0 := 12) (P' := (p + 14)) (pc' := 29) dX0_isAsked_26 rfl rf_0_54 rfl rfl (by omega) ?_
      refine go_iload_n (pc' := 30) dX0_isAsked_29 rfl rfl ?_
      obtain ⟨g15, h⟩ := gd h
      refine go_iald (pc' := 31) dX0_isAsked_30 rfl g15 ?_
      refine go_iload_n (pc' := 32) dX0_isAsked_31 rfl rfl ?_
      obtain ⟨j16, k17, h⟩ := bd h
      have k17J : Go none (Ev (d + 3)) mt86 40 [some (pvR 0 0 p), some (pvI x1), some (pvI x2), some (pvI x3)] [pvI j16] (true, n, e, σ) (0, some (pvI r), true, n, e, σ) := by
        obtain ⟨g18, h⟩ := gd h
        cases h
        exact go_zret dX0_isAsked_40 rfl g18 rfl
      clear h
      have h := k17
      refine go_icmp_ne (t := 39) (pc' := 35) dX0_isAsked_32 rfl rfl (fun c19 => ?_) (fun c19 => ?_)
      · rw [if_pos (show (σ (p + 14) x3) ≠ x2 from c19)] at h
        refine go_iconst (pc' := 40) dX0_isAsked_39 rfl (r32_c rfl) ?_
        cases h
        exact k17J
      · rw [if_neg (show ¬ ((σ (p + 14) x3) ≠ x2) from c19)] at h
        refine go_iconst (pc' := 36) dX0_isAsked_35 rfl (r32_c rfl) ?_
        refine go_goto (t := 40) dX0_isAsked_36 rfl ?_
        cases h
        exact k17J
  · rw [if_neg (show ¬ (x1 ≠ 0) from c26)] at h
    refine go_aload_n (pc' := 5) dX0_isAsked_4 rfl rfl (Nat.le_of_ble_eq_true rfl) ?_
    refine go_getR (k' := 12) (L0 := 12) (P' := (p + 13)) (pc' := 8) dX0_isAsked_5 rfl rf_0_51 rfl rfl (by omega) ?_
    refine go_iload_n (pc' := 9) dX0_isAsked_8 rfl rfl ?_
    obtain ⟨g21, h⟩ := gd h
    refine go_iald (pc' := 10) dX0_isAsked_9 rfl g21 ?_
    refine go_iload_n (pc' := 11) dX0_isAsked_10 rfl rfl ?_
    obtain ⟨j22, k23, h⟩ := bd h
    have k23J : Go none (Ev (d + 3)) mt86 19 [some (pvR 0 0 p), some (pvI x1), some (pvI x2), some (pvI x3)] [pvI j22] (true, n, e, σ) (0, some (pvI r), true, n, e, σ) := by
      obtain ⟨g24, h⟩ := gd h
      cases h
      exact go_zret dX0_isAsked_19 rfl g24 rfl
    clear h
    have h := k23
    refine go_icmp_ne (t := 18) (pc' := 14) dX0_isAsked_11 rfl rfl (fun c25 => ?_) (fun c25 => ?_)
    · rw [if_pos (show (σ (p + 13) x3) ≠ x2 from c25)] at h
      refine go_iconst (pc' := 19) dX0_isAsked_18 rfl (r32_c rfl) ?_
      cases h
      exact k23J
    · rw [if_neg (show ¬ ((σ (p + 13) x3) ≠ x2) from c25)] at h
      refine go_iconst (pc' := 15) dX0_isAsked_14 rfl (r32_c rfl) ?_
      refine go_goto (t := 19) dX0_isAsked_15 rfl ?_
      cases h
      exact k23J

