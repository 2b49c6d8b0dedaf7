/-! ===== links: each function is what its bytecode does ===== -/
set_option maxRecDepth 10000 in
theorem l_FR_has (d : Nat) (n e : Nat) (σ : Hp) (x1 : Int) (r : Int) (h : f_FR_has σ x1 = some r) : Ev (d + 1) 97 [pvR 1 0 101, pvI x1] (true, n, e, σ) (0, some (pvI r), true, n, e, σ) := by
  unfold f_FR_has at h
  refine Ev.of mtE97 rfl rfl rfl rfl ?_
  show Go none (Ev (d + 0)) mt97 0 [some (pvR 1 0 101), some (pvI x1)] [] (true, n, e, σ) (0, some (pvI r), true, n, e, σ)
  refine go_iload_n (pc' := 1) dX1_has_0 rfl rfl ?_
  obtain ⟨j1, k2, h⟩ := bd h
  have k2J : Go none (Ev (d + 0)) mt97 23 [some (pvR 1 0 101), some (pvI x1)] [pvI j1] (true, n, e, σ) (0, some (pvI r), true, n, e, σ) := by
    obtain ⟨g5, h⟩ := gd h
    cases h
    exact go_zret dX1_has_23 rfl g5 rfl
  clear h
  have h := k2
  refine go_if_lt (t := 22) (pc' := 4) dX1_has_1 rfl rfl (fun c6 => ?_) (fun c6 => ?_)
  · rw [if_pos (show x1 < 0 from c6)] at h
    refine go_iconst (pc' := 23) dX1_has_22 rfl (r32_c rfl) ?_
    cases h
    exact k2J
  · rw [if_neg (show ¬ (x1 < 0) from c6)] at h
    refine go_iload_n (pc' := 5) dX1_has_4 rfl rfl ?_
    refine go_aload_n (pc' := 6) dX1_has_5 rfl rfl (Nat.le_of_ble_eq_true rfl) ?_
    refine go_getI (pc' := 9) dX1_has_6 rfl rf_1_30 rfl ?_
    refine go_icmp_ge (t := 22) (pc' := 12) dX1_has_9 rfl rfl (fun c4 => ?_) (fun c4 => ?_)
    · rw [if_pos (show (σ 101 0) ≤ x1 from c4)] at h
      refine go_iconst (pc' := 23) dX1_has_22 rfl (r32_c rfl) ?_
      cases h
      exact k2J
    · rw [if_neg (show ¬ ((σ 101 0) ≤ x1) from c4)] at h
      refine go_iload_n (pc' := 13) dX1_has_12 rfl rfl ?_
      refine go_bipush (pc' := 15) dX1_has_13 rfl (r32_c rfl) (by decide) ?_
      refine go_icmp_ge (t := 22) (pc' := 18) dX1_has_15 rfl rfl (fun c3 => ?_) (fun c3 => ?_)
      · rw [if_pos (show 50 ≤ x1 from c3)] at h
        refine go_iconst (pc' := 23) dX1_has_22 rfl (r32_c rfl) ?_
        cases h
        exact k2J
      · rw [if_neg (show ¬ (50 ≤ x1) from c3)] at h
        refine go_iconst (pc' := 19) dX1_has_18 rfl (r32_c rfl) ?_
        refine go_goto (t := 23) dX1_has_19 rfl ?_
        cases h
        exact k2J

set_option maxRecDepth 10000 in
theorem l_FR_numberAt (d : Nat) (n e : Nat) (σ : Hp) (x1 : Int) (r : Int) (h : f_FR_numberAt σ x1 = some r) : Ev (d + 2) 96 [pvR 1 0 101, pvI x1] (true, n, e, σ) (0, some (pvI r), true, n, e, σ) := by
  unfold f_FR_numberAt at h
  refine Ev.of mtE96 rfl rfl rfl rfl ?_
  show Go none (Ev (d + 1)) mt96 0 [some (pvR 1 0 101), some (pvI x1)] [] (true, n, e, σ) (0, some (pvI r), true, n, e, σ)
  refine go_aload_n (pc' := 1) dX1_numberAt_0 rfl rfl (Nat.le_of_ble_eq_true rfl) ?_
  refine go_iload_n (pc' := 2) dX1_numberAt_1 rfl rfl ?_
  obtain ⟨v1, k2, h⟩ := bd h
  have k2 := l_FR_has (d + 0) n e σ x1 _ k2
  refine go_call (kc := 97) (Mc := mt97) (v := some (pvI v1)) (w' := (true, n, e, σ)) (pc' := 5) (st' := [pvI v1]) [pvR 1 0 101, pvI x1] [] (Or.inl rfl) dX1_numberAt_2 rfl rm_1_34 mtE97 rfl rfl rfl (Nat.le_of_ble_eq_true rfl) (Or.inr ⟨_, _, 101, rfl, Or.inl rfl⟩) k2 rfl ?_
  obtain ⟨j3, k4, h⟩ := bd h
  have k4J : Go none (Ev (d + 1)) mt96 18 [some (pvR 1 0 101), some (pvI x1)] [pvI j3] (true, n, e, σ) (0, some (pvI r), true, n, e, σ) := by
    cases h
    exact go_iret dX1_numberAt_18 rfl rfl
  clear h
  have h := k4
  refine go_if_eq (t := 17) (pc' := 8) dX1_numberAt_5 rfl rfl (fun c6 => ?_) (fun c6 => ?_)
  · rw [if_pos (show v1 = 0 from c6)] at h
    refine go_iconst (pc' := 18) dX1_numberAt_17 rfl (r32_c rfl) ?_
    cases h
    exact k4J
  · rw [if_neg (show ¬ (v1 = 0) from c6)] at h
    refine go_aload_n (pc' := 9) dX1_numberAt_8 rfl rfl (Nat.le_of_ble_eq_true rfl) ?_
    refine go_getR (k' := 12) (L0 := 50) (P' := 104) (pc' := 12) dX1_numberAt_9 rfl rf_1_18 rfl rfl (by omega) ?_
    refine go_iload_n (pc' := 13) dX1_numberAt_12 rfl rfl ?_
    obtain ⟨g5, h⟩ := gd h
    refine go_iald (pc' := 14) dX1_numberAt_13 rfl g5 ?_
    refine go_goto (t := 18) dX1_numberAt_14 rfl ?_
    cases h
    exact k4J

set_option maxRecDepth 10000 in
theorem l_FR_setNumber (d : Nat) (n e : Nat) (σ : Hp) (x1 : Int) (x2 : Int) (r : Hp) (h : f_FR_setNumber σ x1 x2 = some r) : Ev (d + 2) 98 [pvR 1 0 101, pvI x1, pvI x2] (true, n, e, σ) (0, none, true, n, e, r) := by
  unfold f_FR_setNumber at h
  refine Ev.of mtE98 rfl rfl rfl rfl ?_
  show Go none (Ev (d + 1)) mt98 0 [some (pvR 1 0 101), some (pvI x1), some (pvI x2)] [] (true, n, e, σ) (0, none, true, n, e, r)
  refine go_aload_n (pc' := 1) dX1_setNumber_0 rfl rfl (Nat.le_of_ble_eq_true rfl) ?_
  refine go_iload_n (pc' := 2) dX1_setNumber_1 rfl rfl ?_
  obtain ⟨v1, k2, h⟩ := bd h
  have k2 := l_FR_has (d + 0) n e σ x1 _ k2
  refine go_call (kc := 97) (Mc := mt97) (v := some (pvI v1)) (w' := (true, n, e, σ)) (pc' := 5) (st' := [pvI v1]) [pvR 1 0 101, pvI x1] [] (Or.inl rfl) dX1_setNumber_2 rfl rm_1_34 mtE97 rfl rfl rfl (Nat.le_of_ble_eq_true rfl) (Or.inr ⟨_, _, 101, rfl, Or.inl rfl⟩) k2 rfl ?_
  obtain ⟨j3, k4, h⟩ := bd h
  have k4J : Go none (Ev (d + 1)) mt98 15 [some (pvR 1 0 101), some (pvI x1), some (pvI x2)] [] (true, n, e, j3) (0, none, true, n, e, r) := by
    cases h
    exact go_vret dX1_setNumber_15 rfl rfl
  clear h
  have h := k4
  refine go_if_eq (t := 15) (pc' := 8) dX1_setNumber_5 rfl rfl (fun c6 => ?_) (fun c6 => ?_)
  · rw [if_pos (show v1 = 0 from c6)] at h
    cases h
    exact k4J
  · rw [if_neg (show ¬ (v1 = 0) from c6)] at h
    refine go_aload_n (pc' := 9) dX1_setNumber_8 rfl rfl (Nat.le_of_ble_eq_true rfl) ?_
    refine go_getR (k' := 12) (L0 := 50) (P' := 104) (pc' := 12) dX1_setNumber_9 rfl rf_1_18 rfl rfl (by omega) ?_
    refine go_iload_n (pc' := 13) dX1_setNumber_12 rfl rfl ?_
    refine go_iload_n (pc' := 14) dX1_setNumber_13 rfl rfl ?_
    obtain ⟨g5, h⟩ := gd h
    refine go_iast (pc' := 15) dX1_setNumber_14 rfl g5 ?_
    cases h
    exact k4J

set_option maxRecDepth 10000 in
theorem l_FR_cellAt (d : Nat) (n e : Nat) (σ : Hp) (x1 : Int) (r : Int) (h : f_FR_cellAt σ x1 = some r) : Ev (d + 2) 99 [pvR 1 0 101, pvI x1] (true, n, e, σ) (0, some (pvI r), true, n, e, σ) := by
  unfold f_FR_cellAt at h
  refine Ev.of mtE99 rfl rfl rfl rfl ?_
  show Go none (Ev (d + 1)) mt99 0 [some (pvR 1 0 101), some (pvI x1)] [] (true, n, e, σ) (0, some (pvI r), true, n, e, σ)
  refine go_aload_n (pc' := 1) dX1_cellAt_0 rfl rfl (Nat.le_of_ble_eq_true rfl) ?_
  refine go_iload_n (pc' := 2) dX1_cellAt_1 rfl rfl ?_
  obtain ⟨v1, k2, h⟩ := bd h
  have k2 := l_FR_has (d + 0) n e σ x1 _ k2
  refine go_call (kc := 97) (Mc := mt97) (v := some (pvI v1)) (w' := (true, n, e, σ)) (pc' := 5) (st' := [pvI v1]) [pvR 1 0 101, pvI x1] [] (Or.inl rfl) dX1_cellAt_2 rfl rm_1_34 mtE97 rfl rfl rfl (Nat.le_of_ble_eq_true rfl) (Or.inr ⟨_, _, 101, rfl, Or.inl rfl⟩) k2 rfl ?_
  obtain ⟨j3, k4, h⟩ := bd h
  have k4J : Go none (Ev (d + 1)) mt99 18 [some (pvR 1 0 101), some (pvI x1)] [pvI j3] (true, n, e, σ) (0, some (pvI r), true, n, e, σ) := by
    cases h
    exact go_iret dX1_cellAt_18 rfl rfl
  clear h
  have h := k4
  refine go_if_eq (t := 17) (pc' := 8) dX1_cellAt_5 rfl rfl (fun c6 => ?_) (fun c6 => ?_)
  · rw [if_pos (show v1 = 0 from c6)] at h
    refine go_iconst (pc' := 18) dX1_cellAt_17 rfl (r32_c rfl) ?_
    cases h
    exact k4J
  · rw [if_neg (show ¬ (v1 = 0) from c6)] at h
    refine go_aload_n (pc' := 9) dX1_cellAt_8 rfl rfl (Nat.le_of_ble_eq_true rfl) ?_
    refine go_getR (k' := 12) (L0 := 50) (P' := 102) (pc' := 12) dX1_cellAt_9 rfl rf_1_9 rfl rfl (by omega) ?_
    refine go_iload_n (pc' := 13) dX1_cellAt_12 rfl rfl ?_
    obtain ⟨g5, h⟩ := gd h
    refine go_iald (pc' := 14) dX1_cellAt_13 rfl g5 ?_
    refine go_goto (t := 18) dX1_cellAt_14 rfl ?_
    cases h
    exact k4J

set_option maxRecDepth 10000 in
theorem l_FR_measureAt (d : Nat) (n e : Nat) (σ : Hp) (x1 : Int) (r : Int) (h : f_FR_measureAt σ x1 = some r) : Ev (d + 2) 100 [pvR 1 0 101, pvI x1] (true, n, e, σ) (0, some (pvI r), true, n, e, σ) := by
  unfold f_FR_measureAt at h
  refine Ev.of mtE100 rfl rfl rfl rfl ?_
  show Go none (Ev (d + 1)) mt100 0 [some (pvR 1 0 101), some (pvI x1)] [] (true, n, e, σ) (0, some (pvI r), true, n, e, σ)
  refine go_aload_n (pc' := 1) dX1_measureAt_0 rfl rfl (Nat.le_of_ble_eq_true rfl) ?_
  refine go_iload_n (pc' := 2) dX1_measureAt_1 rfl rfl ?_
  obtain ⟨v1, k2, h⟩ := bd h
  have k2 := l_FR_has (d + 0) n e σ x1 _ k2
  refine go_call (kc := 97) (Mc := mt97) (v := some (pvI v1)) (w' := (true, n, e, σ)) (pc' := 5) (st' := [pvI v1]) [pvR 1 0 101, pvI x1] [] (Or.inl rfl) dX1_measureAt_2 rfl rm_1_34 mtE97 rfl rfl rfl (Nat.le_of_ble_eq_true rfl) (Or.inr ⟨_, _, 101, rfl, Or.inl rfl⟩) k2 rfl ?_
  obtain ⟨j3, k4, h⟩ := bd h
  have k4J : Go none (Ev (d + 1)) mt100 18 [some (pvR 1 0 101), some (pvI x1)] [pvI j3] (true, n, e, σ) (0, some (pvI r), true, n, e, σ) := by
    cases h
    exact go_iret dX1_measureAt_18 rfl rfl
  clear h
  have h := k4
  refine go_if_eq (t := 17) (pc' := 8) dX1_measureAt_5 rfl rfl (fun c6 => ?_) (fun c6 => ?_)
  · rw [if_pos (show v1 = 0 from c6)] at h
    refine go_iconst (pc' := 18) dX1_measureAt_17 rfl (r32_c rfl) ?_
    cases h
    exact k4J
  · rw [if_neg (show ¬ (v1 = 0) from c6)] at h
    refine go_aload_n (pc' := 9) dX1_measureAt_8 rfl rfl (Nat.le_of_ble_eq_true rfl) ?_
    refine go_getR (k' := 12) (L0 := 50) (P' := 103) (pc' := 12) dX1_measureAt_9 rfl rf_1_15 rfl rfl (by omega) ?_
    refine go_iload_n (pc' := 13) dX1_measureAt_12 rfl rfl ?_
    obtain ⟨g5, h⟩ := gd h
    refine go_iald (pc' := 14) dX1_measureAt_13 rfl g5 ?_
    refine go_goto (t := 18) dX1_measureAt_14 rfl ?_
    cases h
    exact k4J

set_option maxRecDepth 10000 in
theorem l_C_setNumber (d : Nat) (n e : Nat) (σ : Hp) (x1 : Int) (x2 : Int) (r : Int × Hp) (h : f_C_setNumber σ x1 x2 = some r) : Ev (d + 6) 95 [pvR 10 0 0, pvI x1, pvI x2] (true, n, e, σ) (0, some (pvI r.1), true, n, e, r.2) := by
  unfold f_C_setNumber at h
  refine Ev.of mtE95 rfl rfl rfl rfl ?_
  show Go none (Ev (d + 5)) mt95 0 [some (pvR 10 0 0), some (pvI x1), some (pvI x2)] [] (true, n, e, σ) (0, some (pvI r.1), true, n, e, r.2)
  refine go_aload_n (pc' := 1) dX10_setNumber_0 rfl rfl (Nat.le_of_ble_eq_true rfl) ?_
  refine go_getR (k' := 1) (L0 := 0) (P' := 101) (pc' := 4) dX10_setNumber_1 rfl rf_10_28 rfl rfl (by omega) ?_
  refine go_iload_n (pc' := 5) dX10_setNumber_4 rfl rfl ?_
  obtain ⟨v1, k2, h⟩ := bd h
  have k2 := l_FR_numberAt (d + 3) n e σ x1 _ k2
  refine go_call (kc := 96) (Mc := mt96) (v := some (pvI v1)) (w' := (true, n, e, σ)) (pc' := 8) (st' := [pvI v1]) [pvR 1 0 101, pvI x1] [] (Or.inl rfl) dX10_setNumber_5 rfl rm_10_225 mtE96 rfl rfl rfl (Nat.le_of_ble_eq_true rfl) (Or.inr ⟨_, _, 101, rfl, Or.inl rfl⟩) k2 rfl ?_
  refine go_iload_n (pc' := 9) dX10_setNumber_8 rfl rfl ?_
  refine go_icmp_ne (t := 14) (pc' := 12) dX10_setNumber_9 rfl rfl (fun c13 => ?_) (fun c13 => ?_)
  · rw [if_pos (show v1 ≠ x2 from c13)] at h
    refine go_aload_n (pc' := 15) dX10_setNumber_14 rfl rfl (Nat.le_of_ble_eq_true rfl) ?_
    refine go_getR (k' := 1) (L0 := 0) (P' := 101) (pc' := 18) dX10_setNumber_15 rfl rf_10_28 rfl rfl (by omega) ?_
    refine go_iload_n (pc' := 19) dX10_setNumber_18 rfl rfl ?_
    refine go_iload_n (pc' := 20) dX10_setNumber_19 rfl rfl ?_
    obtain ⟨v3, k4, h⟩ := bd h
    have k4 := l_FR_setNumber (d + 3) n e σ x1 x2 _ k4
    refine go_call (kc := 98) (Mc := mt98) (v := none) (w' := (true, n, e, v3)) (pc' := 23) (st' := []) [pvR 1 0 101, pvI x1, pvI x2] [] (Or.inl rfl) dX10_setNumber_20 rfl rm_10_362 mtE98 rfl rfl rfl (Nat.le_of_ble_eq_true rfl) (Or.inr ⟨_, _, 101, rfl, Or.inl rfl⟩) k4 rfl ?_
    refine go_aload_n (pc' := 24) dX10_setNumber_23 rfl rfl (Nat.le_of_ble_eq_true rfl) ?_
    refine go_aload_n (pc' := 25) dX10_setNumber_24 rfl rfl (Nat.le_of_ble_eq_true rfl) ?_
    refine go_getR (k' := 1) (L0 := 0) (P' := 101) (pc' := 28) dX10_setNumber_25 rfl rf_10_28 rfl rfl (by omega) ?_
    refine go_iload_n (pc' := 29) dX10_setNumber_28 rfl rfl ?_
    obtain ⟨v5, k6, h⟩ := bd h
    have k6 := l_FR_cellAt (d + 3) n e v3 x1 _ k6
    refine go_call (kc := 99) (Mc := mt99) (v := some (pvI v5)) (w' := (true, n, e, v3)) (pc' := 32) (st' := [pvI v5, pvR 10 0 0]) [pvR 1 0 101, pvI x1] [pvR 10 0 0] (Or.inl rfl) dX10_setNumber_29 rfl rm_10_364 mtE99 rfl rfl rfl (Nat.le_of_ble_eq_true rfl) (Or.inr ⟨_, _, 101, rfl, Or.inl rfl⟩) k6 rfl ?_
    refine go_aload_n (pc' := 33) dX10_setNumber_32 rfl rfl (Nat.le_of_ble_eq_true rfl) ?_
    refine go_getR (k' := 1) (L0 := 0) (P' := 101) (pc' := 36) dX10_setNumber_33 rfl rf_10_28 rfl rfl (by omega) ?_
    refine go_iload_n (pc' := 37) dX10_setNumber_36 rfl rfl ?_
    obtain ⟨v7, k8, h⟩ := bd h
    have k8 := l_FR_measureAt (d + 3) n e v3 x1 _ k8
    refine go_call (kc := 100) (Mc := mt100) (v := some (pvI v7)) (w' := (true, n, e, v3)) (pc' := 40) (st' := [pvI v7, pvI v5, pvR 10 0 0]) [pvR 1 0 101, pvI x1] [pvI v5, pvR 10 0 0] (Or.inl rfl) dX10_setNumber_37 rfl rm_10_367 mtE100 rfl rfl rfl (Nat.le_of_ble_eq_true rfl) (Or.inr ⟨_, _, 101, rfl, Or.inl rfl⟩) k8 rfl ?_
    obtain ⟨v9, k10, h⟩ := bd h
    have k10 := l_C_dropFor (d + 0) n e v3 v5 v7 _ k10
    refine go_call (kc := 83) (Mc := mt83) (v := none) (w' := (true, n, e, v9)) (pc' := 43) (st' := []) [pvR 10 0 0, pvI v5, pvI v7] [] (Or.inl rfl) dX10_setNumber_40 rfl rm_10_217 mtE83 rfl rfl rfl (Nat.le_of_ble_eq_true rfl) (Or.inr ⟨_, _, 0, rfl, Or.inl rfl⟩) k10 rfl ?_
    refine go_iconst (pc' := 44) dX10_setNumber_43 rfl (r32_c rfl) ?_
    obtain ⟨g11, h⟩ := gd h
    cases h
    exact go_zret dX10_setNumber_44 rfl g11 rfl
  · rw [if_neg (show ¬ (v1 ≠ x2) from c13)] at h
    refine go_iconst (pc' := 13) dX10_setNumber_12 rfl (r32_c rfl) ?_
    obtain ⟨g12, h⟩ := gd h
    cases h
    exact go_zret dX10_setNumber_13 rfl g12 rfl

set_option maxRecDepth 10000 in
theorem l_C_fact (d : Nat) (n e : Nat) (σ : Hp) (x1 : Int) (x2 : Int) (x3 : Int) (x4 : Int) (x5 : Int) (r : Nat × Int × Hp) (h : f_C_fact σ x1 x2 x3 x4 x5 = some r) : Ev (d + 7) 76 [pvR 10 0 0, pvI x1, pvI x2, pvI x3, pvI x4, pvI x5] (true, n, e, σ) (r.1, if r.1 = 0 then some (pvI r.2.1) else none, true, n, e + if r.1 = 0 then 0 else 1, r.2.2) := by
  unfold f_C_fact at h
  refine Ev.of mtE76 rfl rfl rfl rfl ?_
  show Go none (Ev (d + 6)) mt76 0 [some (pvR 10 0 0), some (pvI x1), some (pvI x2), some (pvI x3), some (pvI x4), some (pvI x5), none, none] [] (true, n, e, σ) (r.1, if r.1 = 0 then some (pvI r.2.1) else none, true, n, e + if r.1 = 0 then 0 else 1, r.2.2)
  refine go_aload_n (pc' := 1) dX10_fact_0 rfl rfl (Nat.le_of_ble_eq_true rfl) ?_
  refine go_iload_n (pc' := 2) dX10_fact_1 rfl rfl ?_
  refine go_iload_n (pc' := 3) dX10_fact_2 rfl rfl ?_
  refine go_iload_n (pc' := 4) dX10_fact_3 rfl rfl ?_
  refine go_iload (pc' := 6) dX10_fact_4 rfl rfl ?_
  obtain ⟨v1, k2, h⟩ := bd h
  by_cases c3 : v1.1 = 0
  · rw [if_pos c3] at h
    have k2 := l_C_existingCell (d + 3) n e σ x1 x2 x3 x4 _ k2
    rw [c3] at k2
    refine go_call (kc := 77) (Mc := mt77) (v := some (pvI v1.2)) (w' := (true, n, e, σ)) (pc' := 9) (st' := [pvI v1.2]) [pvR 10 0 0, pvI x1, pvI x2, pvI x3, pvI x4] [] (Or.inl rfl) dX10_fact_6 rfl rm_10_205 mtE77 rfl rfl rfl (Nat.le_of_ble_eq_true rfl) (Or.inr ⟨_, _, 0, rfl, Or.inl rfl⟩) k2 rfl ?_
    refine go_istore (L' := [some (pvR 10 0 0), some (pvI x1), some (pvI x2), some (pvI x3), some (pvI x4), some (pvI x5), some (pvI v1.2), none]) (pc' := 11) dX10_fact_9 rfl (Nat.le_of_ble_eq_true rfl) rfl ?_
    refine go_iload (pc' := 13) dX10_fact_11 rfl rfl ?_
    refine go_ldc (pc' := 15) dX10_fact_13 rfl (r32_c rfl) rc_10_165 ?_
    refine go_ldc (pc' := 17) dX10_fact_15 rfl (r32_c rfl) rc_10_166 ?_
    obtain ⟨v4, k5, h⟩ := bd h
    by_cases c6 : v4 = 0
    · rw [if_pos c6] at h
      have k5 := l_C_needRange (d + 5) n e σ x5 (-1000000) 1000000 _ k5
      rw [c6] at k5
      refine go_call (kc := 24) (Mc := mt24) (v := none) (w' := (true, n, e, σ)) (pc' := 20) (st' := []) [pvI x5, pvI (-1000000), pvI 1000000] [] (Or.inr (Or.inl rfl)) dX10_fact_17 rfl rm_10_70 mtE24 rfl rfl rfl (Nat.le_of_ble_eq_true rfl) (Or.inl (by decide)) k5 rfl ?_
      refine go_aload_n (pc' := 21) dX10_fact_20 rfl rfl (Nat.le_of_ble_eq_true rfl) ?_
      refine go_getR (k' := 7) (L0 := 0) (P' := 1) (pc' := 24) dX10_fact_21 rfl rf_10_12 rfl rfl (by omega) ?_
      refine go_iload (pc' := 26) dX10_fact_24 rfl rfl ?_
      obtain ⟨v7, k8, h⟩ := bd h
      have k8 := l_S_isPlain (d + 3) n e σ v1.2 _ k8
      refine go_call (kc := 78) (Mc := mt78) (v := some (pvI v7)) (w' := (true, n, e, σ)) (pc' := 29) (st' := [pvI v7]) [pvR 7 0 1, pvI v1.2] [] (Or.inl rfl) dX10_fact_26 rfl rm_10_209 mtE78 rfl rfl rfl (Nat.le_of_ble_eq_true rfl) (Or.inr ⟨_, _, 1, rfl, Or.inl rfl⟩) k8 rfl ?_
      obtain ⟨j9, k10, h⟩ := bd h
      have k10J : Go none (Ev (d + 6)) mt76 50 [some (pvR 10 0 0), some (pvI x1), some (pvI x2), some (pvI x3), some (pvI x4), some (pvI x5), some (pvI v1.2), none] [pvI j9] (true, n, e, σ) (r.1, if r.1 = 0 then some (pvI r.2.1) else none, true, n, e + if r.1 = 0 then 0 else 1, r.2.2) := by
        obtain ⟨v14, k15, h⟩ := bd h
        by_cases c16 : v14 = 0
        · rw [if_pos c16] at h
          have k15 := l_C_need (d + 5) n e σ j9 _ k15
          rw [c16] at k15
          refine go_call (kc := 26) (Mc := mt26) (v := none) (w' := (true, n, e, σ)) (pc' := 53) (st' := []) [pvI j9] [] (Or.inr (Or.inl rfl)) dX10_fact_50 rfl rm_10_84 mtE26 rfl rfl rfl (Nat.le_of_ble_eq_true rfl) (Or.inl (by decide)) k15 rfl ?_
          refine go_aload_n (pc' := 54) dX10_fact_53 rfl rfl (Nat.le_of_ble_eq_true rfl) ?_
          refine go_getR (k' := 1) (L0 := 0) (P' := 101) (pc' := 57) dX10_fact_54 rfl rf_10_28 rfl rfl (by omega) ?_
          refine go_iload (pc' := 59) dX10_fact_57 rfl rfl ?_
          refine go_iload (pc' := 61) dX10_fact_59 rfl rfl ?_
          obtain ⟨v17, k18, h⟩ := bd h
          have k18 := l_FR_find (d + 5) n e σ v1.2 x4 _ k18
          refine go_call (kc := 81) (Mc := mt81) (v := some (pvI v17)) (w' := (true, n, e, σ)) (pc' := 64) (st' := [pvI v17]) [pvR 1 0 101, pvI v1.2, pvI x4] [] (Or.inl rfl) dX10_fact_61 rfl rm_10_211 mtE81 rfl rfl rfl (Nat.le_of_ble_eq_true rfl) (Or.inr ⟨_, _, 101, rfl, Or.inl rfl⟩) k18 rfl ?_
          refine go_istore (L' := [some (pvR 10 0 0), some (pvI x1), some (pvI x2), some (pvI x3), some (pvI x4), some (pvI x5), some (pvI v1.2), some (pvI v17)]) (pc' := 66) dX10_fact_64 rfl (Nat.le_of_ble_eq_true rfl) rfl ?_
          refine go_iload (pc' := 68) dX10_fact_66 rfl rfl ?_
          refine go_iconst (pc' := 69) dX10_fact_68 rfl (r32_c rfl) ?_
          obtain ⟨j19, k20, h⟩ := bd h
          have k20J : Go none (Ev (d + 6)) mt76 89 [some (pvR 10 0 0), some (pvI x1), some (pvI x2), some (pvI x3), some (pvI x4), some (pvI x5), some (pvI v1.2), some (pvI v17)] [pvI j19] (true, n, e, σ) (r.1, if r.1 = 0 then some (pvI r.2.1) else none, true, n, e + if r.1 = 0 then 0 else 1, r.2.2) := by
            obtain ⟨v22, k23, h⟩ := bd h
            by_cases c24 : v22 = 0
            · rw [if_pos c24] at h
              have k23 := l_C_need (d + 5) n e σ j19 _ k23
              rw [c24] at k23
              refine go_call (kc := 26) (Mc := mt26) (v := none) (w' := (true, n, e, σ)) (pc' := 92) (st' := []) [pvI j19] [] (Or.inr (Or.inl rfl)) dX10_fact_89 rfl rm_10_84 mtE26 rfl rfl rfl (Nat.le_of_ble_eq_true rfl) (Or.inl (by decide)) k23 rfl ?_
              refine go_iload (pc' := 94) dX10_fact_92 rfl rfl ?_
              refine go_iconst (pc' := 95) dX10_fact_94 rfl (r32_c rfl) ?_
              obtain ⟨j25, k26, h⟩ := bd h
              have k26J : Go none (Ev (d + 6)) mt76 131 [some (pvR 10 0 0), some (pvI x1), some (pvI x2), some (pvI x3), some (pvI x4), some (pvI x5), some (pvI v1.2), some (pvI v17)] [] (true, n, e, j25) (r.1, if r.1 = 0 then some (pvI r.2.1) else none, true, n, e + if r.1 = 0 then 0 else 1, r.2.2) := by
                refine go_aload_n (pc' := 132) dX10_fact_131 rfl rfl (Nat.le_of_ble_eq_true rfl) ?_
                refine go_getR (k' := 1) (L0 := 0) (P' := 101) (pc' := 135) dX10_fact_132 rfl rf_10_28 rfl rfl (by omega) ?_
                refine go_getI (pc' := 138) dX10_fact_135 rfl rf_10_214 rfl ?_
                cases h
                exact go_iret dX10_fact_138 rfl rfl
              clear h
              have h := k26
              refine go_icmp_ne (t := 122) (pc' := 98) dX10_fact_95 rfl rfl (fun c33 => ?_) (fun c33 => ?_)
              · rw [if_pos (show v17 ≠ (-1) from c33)] at h
                refine go_aload_n (pc' := 123) dX10_fact_122 rfl rfl (Nat.le_of_ble_eq_true rfl) ?_
                refine go_iload (pc' := 125) dX10_fact_123 rfl rfl ?_
                refine go_iload (pc' := 127) dX10_fact_125 rfl rfl ?_
                obtain ⟨v27, k28, h⟩ := bd h
                have k28 := l_C_setNumber (d + 0) n e σ v17 x5 _ k28
                refine go_call (kc := 95) (Mc := mt95) (v := some (pvI v27.1)) (w' := (true, n, e, v27.2)) (pc' := 130) (st' := [pvI v27.1]) [pvR 10 0 0, pvI v17, pvI x5] [] (Or.inl rfl) dX10_fact_127 rfl rm_10_221 mtE95 rfl rfl rfl (Nat.le_of_ble_eq_true rfl) (Or.inr ⟨_, _, 0, rfl, Or.inl rfl⟩) k28 rfl ?_
                refine go_pop (pc' := 131) dX10_fact_130 rfl (Nat.ne_of_beq_eq_false rfl) ?_
                cases h
                exact k26J
              · rw [if_neg (show ¬ (v17 ≠ (-1)) from c33)] at h
                refine go_aload_n (pc' := 99) dX10_fact_98 rfl rfl (Nat.le_of_ble_eq_true rfl) ?_
                refine go_getR (k' := 1) (L0 := 0) (P' := 101) (pc' := 102) dX10_fact_99 rfl rf_10_28 rfl rfl (by omega) ?_
                refine go_iload (pc' := 104) dX10_fact_102 rfl rfl ?_
                refine go_iload (pc' := 106) dX10_fact_104 rfl rfl ?_
                refine go_iload (pc' := 108) dX10_fact_106 rfl rfl ?_
                obtain ⟨v29, k30, h⟩ := bd h
                have k30 := l_FR_add (d + 5) n e σ v1.2 x4 x5 _ k30
                refine go_call (kc := 82) (Mc := mt82) (v := none) (w' := (true, n, e, v29)) (pc' := 111) (st' := []) [pvR 1 0 101, pvI v1.2, pvI x4, pvI x5] [] (Or.inl rfl) dX10_fact_108 rfl rm_10_215 mtE82 rfl rfl rfl (Nat.le_of_ble_eq_true rfl) (Or.inr ⟨_, _, 101, rfl, Or.inl rfl⟩) k30 rfl ?_
                refine go_aload_n (pc' := 112) dX10_fact_111 rfl rfl (Nat.le_of_ble_eq_true rfl) ?_
                refine go_iload (pc' := 114) dX10_fact_112 rfl rfl ?_
                refine go_iload (pc' := 116) dX10_fact_114 rfl rfl ?_
                obtain ⟨v31, k32, h⟩ := bd h
                have k32 := l_C_dropFor (d + 1) n e v29 v1.2 x4 _ k32
                refine go_call (kc := 83) (Mc := mt83) (v := none) (w' := (true, n, e, v31)) (pc' := 119) (st' := []) [pvR 10 0 0, pvI v1.2, pvI x4] [] (Or.inl rfl) dX10_fact_116 rfl rm_10_217 mtE83 rfl rfl rfl (Nat.le_of_ble_eq_true rfl) (Or.inr ⟨_, _, 0, rfl, Or.inl rfl⟩) k32 rfl ?_
                refine go_goto (t := 131) dX10_fact_119 rfl ?_
                cases h
                exact k26J
            · rw [if_neg c24] at h
              obtain ⟨g34, h⟩ := gd h
              cases h
              have k23 := l_C_need (d + 5) n e σ j19 _ k23
              simp only [if_neg c24] at k23 ⊢
              exact go_callX (kc := 26) (Mc := mt26) [pvI j19] [] (Or.inr rfl) dX10_fact_89 rm_10_84 mtE26 rfl rfl rfl (Nat.le_of_ble_eq_true rfl) (Or.inl (by decide)) rfl c24 g34 k23 rfl
          clear h
          have h := k20
          refine go_icmp_ne (t := 84) (pc' := 72) dX10_fact_69 rfl rfl (fun c35 => ?_) (fun c35 => ?_)
          · rw [if_pos (show v17 ≠ (-1) from c35)] at h
            refine go_iconst (pc' := 85) dX10_fact_84 rfl (r32_c rfl) ?_
            refine go_goto (t := 89) dX10_fact_85 rfl ?_
            cases h
            exact k20J
          · rw [if_neg (show ¬ (v17 ≠ (-1)) from c35)] at h
            refine go_aload_n (pc' := 73) dX10_fact_72 rfl rfl (Nat.le_of_ble_eq_true rfl) ?_
            refine go_getR (k' := 1) (L0 := 0) (P' := 101) (pc' := 76) dX10_fact_73 rfl rf_10_28 rfl rfl (by omega) ?_
            refine go_getI (pc' := 79) dX10_fact_76 rfl rf_10_214 rfl ?_
            refine go_bipush (pc' := 81) dX10_fact_79 rfl (r32_c rfl) (by decide) ?_
            refine go_icmp_ge (t := 88) (pc' := 84) dX10_fact_81 rfl rfl (fun c21 => ?_) (fun c21 => ?_)
            · rw [if_pos (show 50 ≤ (σ 101 0) from c21)] at h
              refine go_iconst (pc' := 89) dX10_fact_88 rfl (r32_c rfl) ?_
              cases h
              exact k20J
            · rw [if_neg (show ¬ (50 ≤ (σ 101 0)) from c21)] at h
              refine go_iconst (pc' := 85) dX10_fact_84 rfl (r32_c rfl) ?_
              refine go_goto (t := 89) dX10_fact_85 rfl ?_
              cases h
              exact k20J
        · rw [if_neg c16] at h
          obtain ⟨g36, h⟩ := gd h
          cases h
          have k15 := l_C_need (d + 5) n e σ j9 _ k15
          simp only [if_neg c16] at k15 ⊢
          exact go_callX (kc := 26) (Mc := mt26) [pvI j9] [] (Or.inr rfl) dX10_fact_50 rm_10_84 mtE26 rfl rfl rfl (Nat.le_of_ble_eq_true rfl) (Or.inl (by decide)) rfl c16 g36 k15 rfl
      clear h
      have h := k10
      refine go_if_eq (t := 49) (pc' := 32) dX10_fact_29 rfl rfl (fun c37 => ?_) (fun c37 => ?_)
      · rw [if_pos (show v7 = 0 from c37)] at h
        refine go_iconst (pc' := 50) dX10_fact_49 rfl (r32_c rfl) ?_
        cases h
        exact k10J
      · rw [if_neg (show ¬ (v7 = 0) from c37)] at h
        refine go_aload_n (pc' := 33) dX10_fact_32 rfl rfl (Nat.le_of_ble_eq_true rfl) ?_
        refine go_getR (k' := 4) (L0 := 0) (P' := 95) (pc' := 36) dX10_fact_33 rfl rf_10_21 rfl rfl (by omega) ?_
        refine go_iload (pc' := 38) dX10_fact_36 rfl rfl ?_
        obtain ⟨v11, k12, h⟩ := bd h
        have k12 := l_MS_kindOf (d + 4) n e σ x4 _ k12
        refine go_call (kc := 80) (Mc := mt80) (v := some (pvI v11)) (w' := (true, n, e, σ)) (pc' := 41) (st' := [pvI v11]) [pvR 4 0 95, pvI x4] [] (Or.inl rfl) dX10_fact_38 rfl rm_10_210 mtE80 rfl rfl rfl (Nat.le_of_ble_eq_true rfl) (Or.inr ⟨_, _, 95, rfl, Or.inl rfl⟩) k12 rfl ?_
        refine go_iconst (pc' := 42) dX10_fact_41 rfl (r32_c rfl) ?_
        refine go_icmp_eq (t := 49) (pc' := 45) dX10_fact_42 rfl rfl (fun c13 => ?_) (fun c13 => ?_)
        · rw [if_pos (show v11 = 3 from c13)] at h
          refine go_iconst (pc' := 50) dX10_fact_49 rfl (r32_c rfl) ?_
          cases h
          exact k10J
        · rw [if_neg (show ¬ (v11 = 3) from c13)] at h
          refine go_iconst (pc' := 46) dX10_fact_45 rfl (r32_c rfl) ?_
          refine go_goto (t := 50) dX10_fact_46 rfl ?_
          cases h
          exact k10J
    · rw [if_neg c6] at h
      obtain ⟨g38, h⟩ := gd h
      cases h
      have k5 := l_C_needRange (d + 5) n e σ x5 (-1000000) 1000000 _ k5
      simp only [if_neg c6] at k5 ⊢
      exact go_callX (kc := 24) (Mc := mt24) [pvI x5, pvI (-1000000), pvI 1000000] [] (Or.inr rfl) dX10_fact_17 rm_10_70 mtE24 rfl rfl rfl (Nat.le_of_ble_eq_true rfl) (Or.inl (by decide)) rfl c6 g38 k5 rfl
  · rw [if_neg c3] at h
    obtain ⟨g39, h⟩ := gd h
    cases h
    have k2 := l_C_existingCell (d + 3) n e σ x1 x2 x3 x4 _ k2
    simp only [if_neg c3] at k2 ⊢
    exact go_callX (kc := 77) (Mc := mt77) [pvR 10 0 0, pvI x1, pvI x2, pvI x3, pvI x4] [] (Or.inl rfl) dX10_fact_6 rm_10_205 mtE77 rfl rfl rfl (Nat.le_of_ble_eq_true rfl) (Or.inr ⟨_, _, 0, rfl, Or.inl rfl⟩) rfl c3 g39 k2 rfl

set_option maxRecDepth 10000 in
theorem l_FR_remove_10 (d : Nat) (n : Nat) (e : Nat) (x1 : Int) {out : Out} : ∀ (F : Nat) (y5 : Int) (σ6 : Hp) (j19 : Int × Hp), f_FR_remove_10 F y5 σ6 = some j19 → Go none (Ev (d + 1)) mt103 68 [some (pvR 1 0 101), some (pvI x1), some (pvI j19.1)] [] (true, n, e, j19.2) out → Go none (Ev (d + 1)) mt103 10 [some (pvR 1 0 101), some (pvI x1), some (pvI y5)] [] (true, n, e, σ6) out := by
  intro F
  induction F with
  | zero =>
    intro _ _ _ h
    intro _
    rw [f_FR_remove_10] at h
    cases h
  | succ F ih =>
    intro y5 σ6 j19 h hx
    rw [f_FR_remove_10] at h
    refine go_iload_n (pc' := 11) dX1_remove_10 rfl rfl ?_
    refine go_aload_n (pc' := 12) dX1_remove_11 rfl rfl (Nat.le_of_ble_eq_true rfl) ?_
    refine go_getI (pc' := 15) dX1_remove_12 rfl rf_1_30 rfl ?_
    refine go_iconst (pc' := 16) dX1_remove_15 rfl (r32_c rfl) ?_
    obtain ⟨g7, h⟩ := gd h
    refine go_isub (pc' := 17) dX1_remove_16 rfl g7 ?_
    refine go_icmp_ge (t := 68) (pc' := 20) dX1_remove_17 rfl rfl (fun c18 => ?_) (fun c18 => ?_)
    · rw [if_pos (show ((σ6 101 0) - 1) ≤ y5 from c18)] at h
      cases h
      exact hx
    · rw [if_neg (show ¬ (((σ6 101 0) - 1) ≤ y5) from c18)] at h
      refine go_aload_n (pc' := 21) dX1_remove_20 rfl rfl (Nat.le_of_ble_eq_true rfl) ?_
      refine go_getR (k' := 12) (L0 := 50) (P' := 102) (pc' := 24) dX1_remove_21 rfl rf_1_9 rfl rfl (by omega) ?_
      refine go_iload_n (pc' := 25) dX1_remove_24 rfl rfl ?_
      refine go_aload_n (pc' := 26) dX1_remove_25 rfl rfl (Nat.le_of_ble_eq_true rfl) ?_
      refine go_getR (k' := 12) (L0 := 50) (P' := 102) (pc' := 29) dX1_remove_26 rfl rf_1_9 rfl rfl (by omega) ?_
      refine go_iload_n (pc' := 30) dX1_remove_29 rfl rfl ?_
      refine go_iconst (pc' := 31) dX1_remove_30 rfl (r32_c rfl) ?_
      obtain ⟨g8, h⟩ := gd h
      refine go_iadd (pc' := 32) dX1_remove_31 rfl g8 ?_
      obtain ⟨g9, h⟩ := gd h
      refine go_iald (pc' := 33) dX1_remove_32 rfl g9 ?_
      obtain ⟨g10, h⟩ := gd h
      refine go_iast (pc' := 34) dX1_remove_33 rfl g10 ?_
      refine go_aload_n (pc' := 35) dX1_remove_34 rfl rfl (Nat.le_of_ble_eq_true rfl) ?_
      refine go_getR (k' := 12) (L0 := 50) (P' := 103) (pc' := 38) dX1_remove_35 rfl rf_1_15 rfl rfl (by omega) ?_
      refine go_iload_n (pc' := 39) dX1_remove_38 rfl rfl ?_
      refine go_aload_n (pc' := 40) dX1_remove_39 rfl rfl (Nat.le_of_ble_eq_true rfl) ?_
      refine go_getR (k' := 12) (L0 := 50) (P' := 103) (pc' := 43) dX1_remove_40 rfl rf_1_15 rfl rfl (by omega) ?_
      refine go_iload_n (pc' := 44) dX1_remove_43 rfl rfl ?_
      refine go_iconst (pc' := 45) dX1_remove_44 rfl (r32_c rfl) ?_
      obtain ⟨g11, h⟩ := gd h
      refine go_iadd (pc' := 46) dX1_remove_45 rfl g11 ?_
      obtain ⟨g12, h⟩ := gd h
      refine go_iald (pc' := 47) dX1_remove_46 rfl g12 ?_
      obtain ⟨g13, h⟩ := gd h
      refine go_iast (pc' := 48) dX1_remove_47 rfl g13 ?_
      refine go_aload_n (pc' := 49) dX1_remove_48 rfl rfl (Nat.le_of_ble_eq_true rfl) ?_
      refine go_getR (k' := 12) (L0 := 50) (P' := 104) (pc' := 52) dX1_remove_49 rfl rf_1_18 rfl rfl (by omega) ?_
      refine go_iload_n (pc' := 53) dX1_remove_52 rfl rfl ?_
      refine go_aload_n (pc' := 54) dX1_remove_53 rfl rfl (Nat.le_of_ble_eq_true rfl) ?_
      refine go_getR (k' := 12) (L0 := 50) (P' := 104) (pc' := 57) dX1_remove_54 rfl rf_1_18 rfl rfl (by omega) ?_
      refine go_iload_n (pc' := 58) dX1_remove_57 rfl rfl ?_
      refine go_iconst (pc' := 59) dX1_remove_58 rfl (r32_c rfl) ?_
      obtain ⟨g14, h⟩ := gd h
      refine go_iadd (pc' := 60) dX1_remove_59 rfl g14 ?_
      obtain ⟨g15, h⟩ := gd h
      refine go_iald (pc' := 61) dX1_remove_60 rfl g15 ?_
      obtain ⟨g16, h⟩ := gd h
      refine go_iast (pc' := 62) dX1_remove_61 rfl g16 ?_
      obtain ⟨g17, h⟩ := gd h
      refine go_iinc (L' := [some (pvR 1 0 101), some (pvI x1), some (pvI (y5 + 1))]) (pc' := 65) dX1_remove_62 rfl rfl g17 rfl ?_
      refine go_goto (t := 10) dX1_remove_65 rfl ?_
      exact ih (y5 + 1) (hset (hset (hset σ6 102 y5 (σ6 102 (y5 + 1))) 103 y5 ((hset σ6 102 y5 (σ6 102 (y5 + 1))) 103 (y5 + 1))) 104 y5 ((hset (hset σ6 102 y5 (σ6 102 (y5 + 1))) 103 y5 ((hset σ6 102 y5 (σ6 102 (y5 + 1))) 103 (y5 + 1))) 104 (y5 + 1))) _ h hx

set_option maxRecDepth 10000 in
theorem l_FR_remove (d : Nat) (n e : Nat) (σ : Hp) (x1 : Int) (r : Hp) (h : f_FR_remove σ x1 = some r) : Ev (d + 2) 103 [pvR 1 0 101, pvI x1] (true, n, e, σ) (0, none, true, n, e, r) := by
  unfold f_FR_remove at h
  refine Ev.of mtE103 rfl rfl rfl rfl ?_
  show Go none (Ev (d + 1)) mt103 0 [some (pvR 1 0 101), some (pvI x1), none] [] (true, n, e, σ) (0, none, true, n, e, r)
  refine go_aload_n (pc' := 1) dX1_remove_0 rfl rfl (Nat.le_of_ble_eq_true rfl) ?_
  refine go_iload_n (pc' := 2) dX1_remove_1 rfl rfl ?_
  obtain ⟨v1, k2, h⟩ := bd h
  have k2 := l_FR_has (d + 0) n e σ x1 _ k2
  refine go_call (kc := 97) (Mc := mt97) (v := some (pvI v1)) (w' := (true, n, e, σ)) (pc' := 5) (st' := [pvI v1]) [pvR 1 0 101, pvI x1] [] (Or.inl rfl) dX1_remove_2 rfl rm_1_34 mtE97 rfl rfl rfl (Nat.le_of_ble_eq_true rfl) (Or.inr ⟨_, _, 101, rfl, Or.inl rfl⟩) k2 rfl ?_
  obtain ⟨j3, k4, h⟩ := bd h
  have k4J : Go none (Ev (d + 1)) mt103 78 [some (pvR 1 0 101), some (pvI x1), none] [] (true, n, e, j3) (0, none, true, n, e, r) := by
    cases h
    exact go_vret dX1_remove_78 rfl rfl
  clear h
  have h := k4
  refine go_if_eq (t := 78) (pc' := 8) dX1_remove_5 rfl rfl (fun c23 => ?_) (fun c23 => ?_)
  · rw [if_pos (show v1 = 0 from c23)] at h
    cases h
    exact k4J
  · rw [if_neg (show ¬ (v1 = 0) from c23)] at h
    refine go_iload_n (pc' := 9) dX1_remove_8 rfl rfl ?_
    refine go_istore_n (L' := [some (pvR 1 0 101), some (pvI x1), some (pvI x1)]) (pc' := 10) dX1_remove_9 rfl (Nat.le_of_ble_eq_true rfl) rfl ?_
    obtain ⟨j20, k21, h⟩ := bd h
    refine l_FR_remove_10 d n e x1 zFuel x1 σ _ k21 ?_
    refine go_aload_n (pc' := 69) dX1_remove_68 rfl rfl (Nat.le_of_ble_eq_true rfl) ?_
    refine go_dup (pc' := 70) dX1_remove_69 rfl (Nat.ne_of_beq_eq_false rfl) ?_
    refine go_getI (pc' := 73) dX1_remove_70 rfl rf_1_30 rfl ?_
    refine go_iconst (pc' := 74) dX1_remove_73 rfl (r32_c rfl) ?_
    obtain ⟨g22, h⟩ := gd h
    refine go_isub (pc' := 75) dX1_remove_74 rfl g22 ?_
    refine go_putI (pc' := 78) dX1_remove_75 rfl rf_1_30 rfl ?_
    cases h
    exact go_sub k4J ⟨Or.inr rfl, Or.inr rfl, Or.inl rfl, trivial⟩

set_option maxRecDepth 10000 in
theorem l_C_forget (d : Nat) (n e : Nat) (σ : Hp) (x1 : Int) (x2 : Int) (x3 : Int) (x4 : Int) (r : Nat × Int × Hp) (h : f_C_forget σ x1 x2 x3 x4 = some r) : Ev (d + 6) 102 [pvR 10 0 0, pvI x1, pvI x2, pvI x3, pvI x4] (true, n, e, σ) (r.1, if r.1 = 0 then some (pvI r.2.1) else none, true, n, e + if r.1 = 0 then 0 else 1, r.2.2) := by
  unfold f_C_forget at h
  refine Ev.of mtE102 rfl rfl rfl rfl ?_
  show Go none (Ev (d + 5)) mt102 0 [some (pvR 10 0 0), some (pvI x1), some (pvI x2), some (pvI x3), some (pvI x4), none, none, none] [] (true, n, e, σ) (r.1, if r.1 = 0 then some (pvI r.2.1) else none, true, n, e + if r.1 = 0 then 0 else 1, r.2.2)
  refine go_aload_n (pc' := 1) dX10_forget_0 rfl rfl (Nat.le_of_ble_eq_true rfl) ?_
  refine go_iload_n (pc' := 2) dX10_forget_1 rfl rfl ?_
  refine go_iload_n (pc' := 3) dX10_forget_2 rfl rfl ?_
  refine go_iload_n (pc' := 4) dX10_forget_3 rfl rfl ?_
  refine go_iload (pc' := 6) dX10_forget_4 rfl rfl ?_
  obtain ⟨v1, k2, h⟩ := bd h
  by_cases c3 : v1.1 = 0
  · rw [if_pos c3] at h
    have k2 := l_C_existingCell (d + 2) n e σ x1 x2 x3 x4 _ k2
    rw [c3] at k2
    refine go_call (kc := 77) (Mc := mt77) (v := some (pvI v1.2)) (w' := (true, n, e, σ)) (pc' := 9) (st' := [pvI v1.2]) [pvR 10 0 0, pvI x1, pvI x2, pvI x3, pvI x4] [] (Or.inl rfl) dX10_forget_6 rfl rm_10_205 mtE77 rfl rfl rfl (Nat.le_of_ble_eq_true rfl) (Or.inr ⟨_, _, 0, rfl, Or.inl rfl⟩) k2 rfl ?_
    refine go_istore (L' := [some (pvR 10 0 0), some (pvI x1), some (pvI x2), some (pvI x3), some (pvI x4), some (pvI v1.2), none, none]) (pc' := 11) dX10_forget_9 rfl (Nat.le_of_ble_eq_true rfl) rfl ?_
    refine go_aload_n (pc' := 12) dX10_forget_11 rfl rfl (Nat.le_of_ble_eq_true rfl) ?_
    refine go_getR (k' := 1) (L0 := 0) (P' := 101) (pc' := 15) dX10_forget_12 rfl rf_10_28 rfl rfl (by omega) ?_
    refine go_iload (pc' := 17) dX10_forget_15 rfl rfl ?_
    refine go_iload (pc' := 19) dX10_forget_17 rfl rfl ?_
    obtain ⟨v4, k5, h⟩ := bd h
    have k5 := l_FR_find (d + 4) n e σ v1.2 x4 _ k5
    refine go_call (kc := 81) (Mc := mt81) (v := some (pvI v4)) (w' := (true, n, e, σ)) (pc' := 22) (st' := [pvI v4]) [pvR 1 0 101, pvI v1.2, pvI x4] [] (Or.inl rfl) dX10_forget_19 rfl rm_10_211 mtE81 rfl rfl rfl (Nat.le_of_ble_eq_true rfl) (Or.inr ⟨_, _, 101, rfl, Or.inl rfl⟩) k5 rfl ?_
    refine go_istore (L' := [some (pvR 10 0 0), some (pvI x1), some (pvI x2), some (pvI x3), some (pvI x4), some (pvI v1.2), some (pvI v4), none]) (pc' := 24) dX10_forget_22 rfl (Nat.le_of_ble_eq_true rfl) rfl ?_
    refine go_iload (pc' := 26) dX10_forget_24 rfl rfl ?_
    refine go_iconst (pc' := 27) dX10_forget_26 rfl (r32_c rfl) ?_
    obtain ⟨j6, k7, h⟩ := bd h
    have k7J : Go none (Ev (d + 5)) mt102 35 [some (pvR 10 0 0), some (pvI x1), some (pvI x2), some (pvI x3), some (pvI x4), some (pvI v1.2), some (pvI v4), none] [pvI j6] (true, n, e, σ) (r.1, if r.1 = 0 then some (pvI r.2.1) else none, true, n, e + if r.1 = 0 then 0 else 1, r.2.2) := by
      obtain ⟨v8, k9, h⟩ := bd h
      by_cases c10 : v8 = 0
      · rw [if_pos c10] at h
        have k9 := l_C_need (d + 4) n e σ j6 _ k9
        rw [c10] at k9
        refine go_call (kc := 26) (Mc := mt26) (v := none) (w' := (true, n, e, σ)) (pc' := 38) (st' := []) [pvI j6] [] (Or.inr (Or.inl rfl)) dX10_forget_35 rfl rm_10_84 mtE26 rfl rfl rfl (Nat.le_of_ble_eq_true rfl) (Or.inl (by decide)) k9 rfl ?_
        refine go_aload_n (pc' := 39) dX10_forget_38 rfl rfl (Nat.le_of_ble_eq_true rfl) ?_
        refine go_getR (k' := 1) (L0 := 0) (P' := 101) (pc' := 42) dX10_forget_39 rfl rf_10_28 rfl rfl (by omega) ?_
        refine go_iload (pc' := 44) dX10_forget_42 rfl rfl ?_
        obtain ⟨v11, k12, h⟩ := bd h
        have k12 := l_FR_numberAt (d + 3) n e σ v4 _ k12
        refine go_call (kc := 96) (Mc := mt96) (v := some (pvI v11)) (w' := (true, n, e, σ)) (pc' := 47) (st' := [pvI v11]) [pvR 1 0 101, pvI v4] [] (Or.inl rfl) dX10_forget_44 rfl rm_10_225 mtE96 rfl rfl rfl (Nat.le_of_ble_eq_true rfl) (Or.inr ⟨_, _, 101, rfl, Or.inl rfl⟩) k12 rfl ?_
        refine go_istore (L' := [some (pvR 10 0 0), some (pvI x1), some (pvI x2), some (pvI x3), some (pvI x4), some (pvI v1.2), some (pvI v4), some (pvI v11)]) (pc' := 49) dX10_forget_47 rfl (Nat.le_of_ble_eq_true rfl) rfl ?_
        refine go_aload_n (pc' := 50) dX10_forget_49 rfl rfl (Nat.le_of_ble_eq_true rfl) ?_
        refine go_getR (k' := 1) (L0 := 0) (P' := 101) (pc' := 53) dX10_forget_50 rfl rf_10_28 rfl rfl (by omega) ?_
        refine go_iload (pc' := 55) dX10_forget_53 rfl rfl ?_
        obtain ⟨v13, k14, h⟩ := bd h
        have k14 := l_FR_remove (d + 3) n e σ v4 _ k14
        refine go_call (kc := 103) (Mc := mt103) (v := none) (w' := (true, n, e, v13)) (pc' := 58) (st' := []) [pvR 1 0 101, pvI v4] [] (Or.inl rfl) dX10_forget_55 rfl rm_10_228 mtE103 rfl rfl rfl (Nat.le_of_ble_eq_true rfl) (Or.inr ⟨_, _, 101, rfl, Or.inl rfl⟩) k14 rfl ?_
        refine go_aload_n (pc' := 59) dX10_forget_58 rfl rfl (Nat.le_of_ble_eq_true rfl) ?_
        refine go_iload (pc' := 61) dX10_forget_59 rfl rfl ?_
        refine go_iload (pc' := 63) dX10_forget_61 rfl rfl ?_
        obtain ⟨v15, k16, h⟩ := bd h
        have k16 := l_C_dropFor (d + 0) n e v13 v1.2 x4 _ k16
        refine go_call (kc := 83) (Mc := mt83) (v := none) (w' := (true, n, e, v15)) (pc' := 66) (st' := []) [pvR 10 0 0, pvI v1.2, pvI x4] [] (Or.inl rfl) dX10_forget_63 rfl rm_10_217 mtE83 rfl rfl rfl (Nat.le_of_ble_eq_true rfl) (Or.inr ⟨_, _, 0, rfl, Or.inl rfl⟩) k16 rfl ?_
        refine go_iload (pc' := 68) dX10_forget_66 rfl rfl ?_
        cases h
        exact go_iret dX10_forget_68 rfl rfl
      · rw [if_neg c10] at h
        obtain ⟨g17, h⟩ := gd h
        cases h
        have k9 := l_C_need (d + 4) n e σ j6 _ k9
        simp only [if_neg c10] at k9 ⊢
        exact go_callX (kc := 26) (Mc := mt26) [pvI j6] [] (Or.inr rfl) dX10_forget_35 rm_10_84 mtE26 rfl rfl rfl (Nat.le_of_ble_eq_true rfl) (Or.inl (by decide)) rfl c10 g17 k9 rfl
    clear h
    have h := k7
    refine go_icmp_eq (t := 34) (pc' := 30) dX10_forget_27 rfl rfl (fun c18 => ?_) (fun c18 => ?_)
    · rw [if_pos (show v4 = (-1) from c18)] at h
      refine go_iconst (pc' := 35) dX10_forget_34 rfl (r32_c rfl) ?_
      cases h
      exact k7J
    · rw [if_neg (show ¬ (v4 = (-1)) from c18)] at h
      refine go_iconst (pc' := 31) dX10_forget_30 rfl (r32_c rfl) ?_
      refine go_goto (t := 35) dX10_forget_31 rfl ?_
      cases h
      exact k7J
  · rw [if_neg c3] at h
    obtain ⟨g19, h⟩ := gd h
    cases h
    have k2 := l_C_existingCell (d + 2) n e σ x1 x2 x3 x4 _ k2
    simp only [if_neg c3] at k2 ⊢
    exact go_callX (kc := 77) (Mc := mt77) [pvR 10 0 0, pvI x1, pvI x2, pvI x3, pvI x4] [] (Or.inl rfl) dX10_forget_6 rm_10_205 mtE77 rfl rfl rfl (Nat.le_of_ble_eq_true rfl) (Or.inr ⟨_, _, 0, rfl, Or.inl rfl⟩) rfl c3 g19 k2 rfl

set_option maxRecDepth 10000 in
theorem l_K_find_2 (d : Nat) (n : Nat) (e : Nat) (σ : Hp) (x1 : Int) (x2 : Int) : ∀ (F : Nat) (y1 : Int) (r : Int), f_K_find_2 σ x1 x2 F y1 = some r → Go none (Ev (d + 0)) mt106 2 [some (pvR 3 0 108), some (pvI x1), some (pvI x2), some (pvI y1)] [] (true, n, e, σ) (0, some (pvI r), true, n, e, σ) := by
  intro F
  induction F with
  | zero =>
    intro _ _ h
    rw [f_K_find_2] at h
    cases h
  | succ F ih =>
    intro y1 r h
    rw [f_K_find_2] at h
    refine go_iload_n (pc' := 3) dX3_find_2 rfl rfl ?_
    refine go_aload_n (pc' := 4) dX3_find_3 rfl rfl (Nat.le_of_ble_eq_true rfl) ?_
    refine go_getI (pc' := 7) dX3_find_4 rfl rf_3_22 rfl ?_
    refine go_icmp_ge (t := 38) (pc' := 10) dX3_find_7 rfl rfl (fun c8 => ?_) (fun c8 => ?_)
    · rw [if_pos (show (σ 108 0) ≤ y1 from c8)] at h
      refine go_iconst (pc' := 39) dX3_find_38 rfl (r32_c rfl) ?_
      cases h
      exact go_iret dX3_find_39 rfl rfl
    · rw [if_neg (show ¬ ((σ 108 0) ≤ y1) from c8)] at h
      refine go_aload_n (pc' := 11) dX3_find_10 rfl rfl (Nat.le_of_ble_eq_true rfl) ?_
      refine go_getR (k' := 12) (L0 := 20) (P' := 109) (pc' := 14) dX3_find_11 rfl rf_3_9 rfl rfl (by omega) ?_
      refine go_iload_n (pc' := 15) dX3_find_14 rfl rfl ?_
      obtain ⟨g2, h⟩ := gd h
      refine go_iald (pc' := 16) dX3_find_15 rfl g2 ?_
      refine go_iload_n (pc' := 17) dX3_find_16 rfl rfl ?_
      refine go_icmp_ne (t := 32) (pc' := 20) dX3_find_17 rfl rfl (fun c7 => ?_) (fun c7 => ?_)
      · rw [if_pos (show (σ 109 y1) ≠ x1 from c7)] at h
        obtain ⟨g3, h⟩ := gd h
        refine go_iinc (L' := [some (pvR 3 0 108), some (pvI x1), some (pvI x2), some (pvI (y1 + 1))]) (pc' := 35) dX3_find_32 rfl rfl g3 rfl ?_
        refine go_goto (t := 2) dX3_find_35 rfl ?_
        exact ih (y1 + 1) _ h
      · rw [if_neg (show ¬ ((σ 109 y1) ≠ x1) from c7)] at h
        refine go_aload_n (pc' := 21) dX3_find_20 rfl rfl (Nat.le_of_ble_eq_true rfl) ?_
        refine go_getR (k' := 12) (L0 := 20) (P' := 110) (pc' := 24) dX3_find_21 rfl rf_3_15 rfl rfl (by omega) ?_
        refine go_iload_n (pc' := 25) dX3_find_24 rfl rfl ?_
        obtain ⟨g4, h⟩ := gd h
        refine go_iald (pc' := 26) dX3_find_25 rfl g4 ?_
        refine go_iload_n (pc' := 27) dX3_find_26 rfl rfl ?_
        refine go_icmp_ne (t := 32) (pc' := 30) dX3_find_27 rfl rfl (fun c6 => ?_) (fun c6 => ?_)
        · rw [if_pos (show (σ 110 y1) ≠ x2 from c6)] at h
          obtain ⟨g5, h⟩ := gd h
          refine go_iinc (L' := [some (pvR 3 0 108), some (pvI x1), some (pvI x2), some (pvI (y1 + 1))]) (pc' := 35) dX3_find_32 rfl rfl g5 rfl ?_
          refine go_goto (t := 2) dX3_find_35 rfl ?_
          exact ih (y1 + 1) _ h
        · rw [if_neg (show ¬ ((σ 110 y1) ≠ x2) from c6)] at h
          refine go_iload_n (pc' := 31) dX3_find_30 rfl rfl ?_
          cases h
          exact go_iret dX3_find_31 rfl rfl

set_option maxRecDepth 10000 in
theorem l_K_find (d : Nat) (n e : Nat) (σ : Hp) (x1 : Int) (x2 : Int) (r : Int) (h : f_K_find σ x1 x2 = some r) : Ev (d + 1) 106 [pvR 3 0 108, pvI x1, pvI x2] (true, n, e, σ) (0, some (pvI r), true, n, e, σ) := by
  unfold f_K_find at h
  refine Ev.of mtE106 rfl rfl rfl rfl ?_
  show Go none (Ev (d + 0)) mt106 0 [some (pvR 3 0 108), some (pvI x1), some (pvI x2), none] [] (true, n, e, σ) (0, some (pvI r), true, n, e, σ)
  refine go_iconst (pc' := 1) dX3_find_0 rfl (r32_c rfl) ?_
  refine go_istore_n (L' := [some (pvR 3 0 108), some (pvI x1), some (pvI x2), some (pvI 0)]) (pc' := 2) dX3_find_1 rfl (Nat.le_of_ble_eq_true rfl) rfl ?_
  exact l_K_find_2 d n e σ x1 x2 zFuel 0 _ h

set_option maxRecDepth 10000 in
theorem l_K_valueAt (d : Nat) (n e : Nat) (σ : Hp) (x1 : Int) (r : Int) (h : f_K_valueAt σ x1 = some r) : Ev (d + 2) 107 [pvR 3 0 108, pvI x1] (true, n, e, σ) (0, some (pvL r), true, n, e, σ) := by
  unfold f_K_valueAt at h
  refine Ev.of mtE107 rfl rfl rfl rfl ?_
  show Go none (Ev (d + 1)) mt107 0 [some (pvR 3 0 108), some (pvI x1)] [] (true, n, e, σ) (0, some (pvL r), true, n, e, σ)
  refine go_aload_n (pc' := 1) dX3_valueAt_0 rfl rfl (Nat.le_of_ble_eq_true rfl) ?_
  refine go_iload_n (pc' := 2) dX3_valueAt_1 rfl rfl ?_
  obtain ⟨v1, k2, h⟩ := bd h
  have k2 := l_K_has (d + 0) n e σ x1 _ k2
  refine go_call (kc := 85) (Mc := mt85) (v := some (pvI v1)) (w' := (true, n, e, σ)) (pc' := 5) (st' := [pvI v1]) [pvR 3 0 108, pvI x1] [] (Or.inl rfl) dX3_valueAt_2 rfl rm_3_26 mtE85 rfl rfl rfl (Nat.le_of_ble_eq_true rfl) (Or.inr ⟨_, _, 108, rfl, Or.inl rfl⟩) k2 rfl ?_
  obtain ⟨j3, k4, h⟩ := bd h
  have k4J : Go none (Ev (d + 1)) mt107 20 [some (pvR 3 0 108), some (pvI x1)] [pvL j3] (true, n, e, σ) (0, some (pvL r), true, n, e, σ) := by
    cases h
    exact go_lret dX3_valueAt_20 rfl rfl
  clear h
  have h := k4
  refine go_if_eq (t := 17) (pc' := 8) dX3_valueAt_5 rfl rfl (fun c6 => ?_) (fun c6 => ?_)
  · rw [if_pos (show v1 = 0 from c6)] at h
    refine go_ldc2 (pc' := 20) dX3_valueAt_17 rfl (r64_c rfl) rc_3_30 ?_
    cases h
    exact k4J
  · rw [if_neg (show ¬ (v1 = 0) from c6)] at h
    refine go_aload_n (pc' := 9) dX3_valueAt_8 rfl rfl (Nat.le_of_ble_eq_true rfl) ?_
    refine go_getR (k' := 13) (L0 := 20) (P' := 111) (pc' := 12) dX3_valueAt_9 rfl rf_3_18 rfl rfl (by omega) ?_
    refine go_iload_n (pc' := 13) dX3_valueAt_12 rfl rfl ?_
    obtain ⟨g5, h⟩ := gd h
    refine go_lald (pc' := 14) dX3_valueAt_13 rfl g5 ?_
    refine go_goto (t := 20) dX3_valueAt_14 rfl ?_
    cases h
    exact k4J

set_option maxRecDepth 10000 in
theorem l_R_begins (d : Nat) (n e : Nat) (σ : Hp) (x1 : Int) (r : Hp) (h : f_R_begins σ x1 = some r) : Ev (d + 1) 108 [pvR 6 0 116, pvI x1] (true, n, e, σ) (0, none, true, n, e, r) := by
  unfold f_R_begins at h
  refine Ev.of mtE108 rfl rfl rfl rfl ?_
  show Go none (Ev (d + 0)) mt108 0 [some (pvR 6 0 116), some (pvI x1)] [] (true, n, e, σ) (0, none, true, n, e, r)
  refine go_aload_n (pc' := 1) dX6_begins_0 rfl rfl (Nat.le_of_ble_eq_true rfl) ?_
  refine go_iload_n (pc' := 2) dX6_begins_1 rfl rfl ?_
  refine go_putI (pc' := 5) dX6_begins_2 rfl rf_6_49 rfl ?_
  refine go_aload_n (pc' := 6) dX6_begins_5 rfl rfl (Nat.le_of_ble_eq_true rfl) ?_
  refine go_dup (pc' := 7) dX6_begins_6 rfl (Nat.ne_of_beq_eq_false rfl) ?_
  refine go_getI (pc' := 10) dX6_begins_7 rfl rf_6_53 rfl ?_
  refine go_iconst (pc' := 11) dX6_begins_10 rfl (r32_c rfl) ?_
  obtain ⟨g1, h⟩ := gd h
  refine go_iadd (pc' := 12) dX6_begins_11 rfl g1 ?_
  refine go_putI (pc' := 15) dX6_begins_12 rfl rf_6_53 rfl ?_
  cases h
  exact go_vret dX6_begins_15 rfl rfl

set_option maxRecDepth 10000 in
theorem l_R_meansNothing_2 (d : Nat) (n : Nat) (e : Nat) (σ : Hp) (x1 : Int) : ∀ (F : Nat) (y1 : Int) (r : Int), f_R_meansNothing_2 σ x1 F y1 = some r → Go none (Ev (d + 2)) mt112 2 [some (pvR 6 0 116), some (pvI x1), some (pvI y1), none, none] [] (true, n, e, σ) (0, some (pvI r), true, n, e, σ) := by
  intro F
  induction F with
  | zero =>
    intro _ _ h
    rw [f_R_meansNothing_2] at h
    cases h
  | succ F ih =>
    intro y1 r h
    rw [f_R_meansNothing_2] at h
    refine go_iload_n (pc' := 3) dX6_meansNothing_2 rfl rfl ?_
    refine go_iconst (pc' := 4) dX6_meansNothing_3 rfl (r32_c rfl) ?_
    refine go_icmp_ge (t := 61) (pc' := 7) dX6_meansNothing_4 rfl rfl (fun c18 => ?_) (fun c18 => ?_)
    · rw [if_pos (show 3 ≤ y1 from c18)] at h
      refine go_iconst (pc' := 62) dX6_meansNothing_61 rfl (r32_c rfl) ?_
      obtain ⟨g2, h⟩ := gd h
      cases h
      exact go_zret dX6_meansNothing_62 rfl g2 rfl
    · rw [if_neg (show ¬ (3 ≤ y1) from c18)] at h
      refine go_aload_n (pc' := 8) dX6_meansNothing_7 rfl rfl (Nat.le_of_ble_eq_true rfl) ?_
      refine go_getR (k' := 7) (L0 := 0) (P' := 1) (pc' := 11) dX6_meansNothing_8 rfl rf_6_37 rfl rfl (by omega) ?_
      refine go_iload_n (pc' := 12) dX6_meansNothing_11 rfl rfl ?_
      obtain ⟨v3, k4, h⟩ := bd h
      have k4 := l_S_dimension (d + 1) n e σ y1 _ k4
      refine go_call (kc := 21) (Mc := mt21) (v := some (pvR 0 0 v3)) (w' := (true, n, e, σ)) (pc' := 15) (st' := [pvR 0 0 v3]) [pvR 7 0 1, pvI y1] [] (Or.inl rfl) dX6_meansNothing_12 rfl rm_6_80 mtE21 rfl rfl rfl (Nat.le_of_ble_eq_true rfl) (Or.inr ⟨_, _, 1, rfl, Or.inl rfl⟩) k4 rfl ?_
      refine go_astore_n (L' := [some (pvR 6 0 116), some (pvI x1), some (pvI y1), some (pvR 0 0 v3), none]) (pc' := 16) dX6_meansNothing_15 rfl (Nat.le_of_ble_eq_true rfl) (Nat.le_of_ble_eq_true rfl) rfl ?_
      refine go_iload_n (pc' := 17) dX6_meansNothing_16 rfl rfl ?_
      refine go_iload_n (pc' := 18) dX6_meansNothing_17 rfl rfl ?_
      obtain ⟨v5, k6, h⟩ := bd h
      have k6 := l_C_memberOf (d + 1) n e σ x1 y1 _ k6
      refine go_call (kc := 79) (Mc := mt79) (v := some (pvI v5)) (w' := (true, n, e, σ)) (pc' := 21) (st' := [pvI v5]) [pvI x1, pvI y1] [] (Or.inr (Or.inr (Or.inr (Or.inl rfl)))) dX6_meansNothing_18 rfl rm_6_84 mtE79 rfl rfl rfl (Nat.le_of_ble_eq_true rfl) (Or.inl (by decide)) k6 rfl ?_
      refine go_istore (L' := [some (pvR 6 0 116), some (pvI x1), some (pvI y1), some (pvR 0 0 v3), some (pvI v5)]) (pc' := 23) dX6_meansNothing_21 rfl (Nat.le_of_ble_eq_true rfl) rfl ?_
      refine go_aload_n (pc' := 24) dX6_meansNothing_23 rfl rfl (Nat.le_of_ble_eq_true rfl) ?_
      refine go_iload (pc' := 26) dX6_meansNothing_24 rfl rfl ?_
      obtain ⟨v7, k8, h⟩ := bd h
      have k8 := l_D_isPlain (d + 0) n e σ v3 v5 _ k8
      refine go_call (kc := 25) (Mc := mt25) (v := some (pvI v7)) (w' := (true, n, e, σ)) (pc' := 29) (st' := [pvI v7]) [pvR 0 0 v3, pvI v5] [] (Or.inl rfl) dX6_meansNothing_26 rfl rm_6_126 mtE25 rfl rfl rfl (Nat.le_of_ble_eq_true rfl) (Or.inr ⟨_, _, v3, rfl, Or.inl rfl⟩) k8 rfl ?_
      refine go_if_eq (t := 55) (pc' := 32) dX6_meansNothing_29 rfl rfl (fun c17 => ?_) (fun c17 => ?_)
      · rw [if_pos (show v7 = 0 from c17)] at h
        obtain ⟨g9, h⟩ := gd h
        refine go_iinc (L' := [some (pvR 6 0 116), some (pvI x1), some (pvI (y1 + 1)), some (pvR 0 0 v3), some (pvI v5)]) (pc' := 58) dX6_meansNothing_55 rfl rfl g9 rfl ?_
        refine go_goto (t := 2) dX6_meansNothing_58 rfl ?_
        exact go_sub (ih (y1 + 1) _ h) ⟨Or.inr rfl, Or.inr rfl, Or.inr rfl, Or.inl rfl, Or.inl rfl, trivial⟩
      · rw [if_neg (show ¬ (v7 = 0) from c17)] at h
        refine go_aload_n (pc' := 33) dX6_meansNothing_32 rfl rfl (Nat.le_of_ble_eq_true rfl) ?_
        refine go_iload (pc' := 35) dX6_meansNothing_33 rfl rfl ?_
        obtain ⟨v10, k11, h⟩ := bd h
        have k11 := l_D_depthOf (d + 0) n e σ v3 v5 _ k11
        refine go_call (kc := 31) (Mc := mt31) (v := some (pvI v10)) (w' := (true, n, e, σ)) (pc' := 38) (st' := [pvI v10]) [pvR 0 0 v3, pvI v5] [] (Or.inl rfl) dX6_meansNothing_35 rfl rm_6_187 mtE31 rfl rfl rfl (Nat.le_of_ble_eq_true rfl) (Or.inr ⟨_, _, v3, rfl, Or.inl rfl⟩) k11 rfl ?_
        refine go_aload_n (pc' := 39) dX6_meansNothing_38 rfl rfl (Nat.le_of_ble_eq_true rfl) ?_
        refine go_getR (k' := 4) (L0 := 0) (P' := 95) (pc' := 42) dX6_meansNothing_39 rfl rf_6_41 rfl rfl (by omega) ?_
        refine go_aload_n (pc' := 43) dX6_meansNothing_42 rfl rfl (Nat.le_of_ble_eq_true rfl) ?_
        refine go_getI (pc' := 46) dX6_meansNothing_43 rfl rf_6_49 rfl ?_
        refine go_iload_n (pc' := 47) dX6_meansNothing_46 rfl rfl ?_
        obtain ⟨v12, k13, h⟩ := bd h
        have k13 := l_MS_leastDepth (d + 0) n e σ (σ 116 3) y1 _ k13
        refine go_call (kc := 74) (Mc := mt74) (v := some (pvI v12)) (w' := (true, n, e, σ)) (pc' := 50) (st' := [pvI v12, pvI v10]) [pvR 4 0 95, pvI (σ 116 3), pvI y1] [pvI v10] (Or.inl rfl) dX6_meansNothing_47 rfl rm_6_190 mtE74 rfl rfl rfl (Nat.le_of_ble_eq_true rfl) (Or.inr ⟨_, _, 95, rfl, Or.inl rfl⟩) k13 rfl ?_
        refine go_icmp_ge (t := 55) (pc' := 53) dX6_meansNothing_50 rfl rfl (fun c16 => ?_) (fun c16 => ?_)
        · rw [if_pos (show v12 ≤ v10 from c16)] at h
          obtain ⟨g14, h⟩ := gd h
          refine go_iinc (L' := [some (pvR 6 0 116), some (pvI x1), some (pvI (y1 + 1)), some (pvR 0 0 v3), some (pvI v5)]) (pc' := 58) dX6_meansNothing_55 rfl rfl g14 rfl ?_
          refine go_goto (t := 2) dX6_meansNothing_58 rfl ?_
          exact go_sub (ih (y1 + 1) _ h) ⟨Or.inr rfl, Or.inr rfl, Or.inr rfl, Or.inl rfl, Or.inl rfl, trivial⟩
        · rw [if_neg (show ¬ (v12 ≤ v10) from c16)] at h
          refine go_iconst (pc' := 54) dX6_meansNothing_53 rfl (r32_c rfl) ?_
          obtain ⟨g15, h⟩ := gd h
          cases h
          exact go_zret dX6_meansNothing_54 rfl g15 rfl

set_option maxRecDepth 10000 in
theorem l_R_meansNothing (d : Nat) (n e : Nat) (σ : Hp) (x1 : Int) (r : Int) (h : f_R_meansNothing σ x1 = some r) : Ev (d + 3) 112 [pvR 6 0 116, pvI x1] (true, n, e, σ) (0, some (pvI r), true, n, e, σ) := by
  unfold f_R_meansNothing at h
  refine Ev.of mtE112 rfl rfl rfl rfl ?_
  show Go none (Ev (d + 2)) mt112 0 [some (pvR 6 0 116), some (pvI x1), none, none, none] [] (true, n, e, σ) (0, some (pvI r), true, n, e, σ)
  refine go_iconst (pc' := 1) dX6_meansNothing_0 rfl (r32_c rfl) ?_
  refine go_istore_n (L' := [some (pvR 6 0 116), some (pvI x1), some (pvI 0), none, none]) (pc' := 2) dX6_meansNothing_1 rfl (Nat.le_of_ble_eq_true rfl) rfl ?_
  exact l_R_meansNothing_2 d n e σ x1 zFuel 0 _ h

set_option maxRecDepth 10000 in
theorem l_R_gather_7 (d : Nat) (n : Nat) (e : Nat) (x1 : Int) (x2 : Int) {out : Out} : ∀ (F : Nat) (y1 : Int) (σ2 : Hp) (j27 : Int × Hp), f_R_gather_7 x1 x2 F y1 σ2 = some j27 → Go none (Ev (d + 3)) mt113 125 [some (pvR 6 0 116), some (pvI x1), some (pvI x2), some (pvI j27.1), none] [] (true, n, e, j27.2) out → Go none (Ev (d + 3)) mt113 7 [some (pvR 6 0 116), some (pvI x1), some (pvI x2), some (pvI y1), none] [] (true, n, e, σ2) out := by
  intro F
  induction F with
  | zero =>
    intro _ _ _ h
    intro _
    rw [f_R_gather_7] at h
    cases h
  | succ F ih =>
    intro y1 σ2 j27 h hx
    rw [f_R_gather_7] at h
    refine go_iload_n (pc' := 8) dX6_gather_7 rfl rfl ?_
    refine go_aload_n (pc' := 9) dX6_gather_8 rfl rfl (Nat.le_of_ble_eq_true rfl) ?_
    refine go_getR (k' := 1) (L0 := 0) (P' := 101) (pc' := 12) dX6_gather_9 rfl rf_6_45 rfl rfl (by omega) ?_
    refine go_getI (pc' := 15) dX6_gather_12 rfl rf_6_216 rfl ?_
    refine go_icmp_ge (t := 125) (pc' := 18) dX6_gather_15 rfl rfl (fun c26 => ?_) (fun c26 => ?_)
    · rw [if_pos (show (σ2 101 0) ≤ y1 from c26)] at h
      cases h
      exact hx
    · rw [if_neg (show ¬ ((σ2 101 0) ≤ y1) from c26)] at h
      refine go_aload_n (pc' := 19) dX6_gather_18 rfl rfl (Nat.le_of_ble_eq_true rfl) ?_
      refine go_getR (k' := 1) (L0 := 0) (P' := 101) (pc' := 22) dX6_gather_19 rfl rf_6_45 rfl rfl (by omega) ?_
      refine go_iload_n (pc' := 23) dX6_gather_22 rfl rfl ?_
      obtain ⟨v3, k4, h⟩ := bd h
      have k4 := l_FR_measureAt (d + 1) n e σ2 y1 _ k4
      refine go_call (kc := 100) (Mc := mt100) (v := some (pvI v3)) (w' := (true, n, e, σ2)) (pc' := 26) (st' := [pvI v3]) [pvR 1 0 101, pvI y1] [] (Or.inl rfl) dX6_gather_23 rfl rm_6_219 mtE100 rfl rfl rfl (Nat.le_of_ble_eq_true rfl) (Or.inr ⟨_, _, 101, rfl, Or.inl rfl⟩) k4 rfl ?_
      refine go_iload_n (pc' := 27) dX6_gather_26 rfl rfl ?_
      obtain ⟨j5, k6, h⟩ := bd h
      have k6J : Go none (Ev (d + 3)) mt113 50 [some (pvR 6 0 116), some (pvI x1), some (pvI x2), some (pvI y1), none] [pvI j5] (true, n, e, σ2) out := by
        refine go_istore (L' := [some (pvR 6 0 116), some (pvI x1), some (pvI x2), some (pvI y1), some (pvI j5)]) (pc' := 52) dX6_gather_50 rfl (Nat.le_of_ble_eq_true rfl) rfl ?_
        refine go_iload (pc' := 54) dX6_gather_52 rfl rfl ?_
        obtain ⟨j11, k12, h⟩ := bd h
        have k12J : Go none (Ev (d + 3)) mt113 119 [some (pvR 6 0 116), some (pvI x1), some (pvI x2), some (pvI y1), some (pvI j5)] [] (true, n, e, j11) out := by
          obtain ⟨g23, h⟩ := gd h
          refine go_iinc (L' := [some (pvR 6 0 116), some (pvI x1), some (pvI x2), some (pvI (y1 + 1)), some (pvI j5)]) (pc' := 122) dX6_gather_119 rfl rfl g23 rfl ?_
          refine go_goto (t := 7) dX6_gather_122 rfl ?_
          exact go_sub (ih (y1 + 1) j11 _ h hx) ⟨Or.inr rfl, Or.inr rfl, Or.inr rfl, Or.inr rfl, Or.inl rfl, trivial⟩
        clear h
        have h := k12
        refine go_if_eq (t := 119) (pc' := 57) dX6_gather_54 rfl rfl (fun c24 => ?_) (fun c24 => ?_)
        · rw [if_pos (show j5 = 0 from c24)] at h
          cases h
          exact k12J
        · rw [if_neg (show ¬ (j5 = 0) from c24)] at h
          refine go_aload_n (pc' := 58) dX6_gather_57 rfl rfl (Nat.le_of_ble_eq_true rfl) ?_
          refine go_getR (k' := 12) (L0 := 50) (P' := 121) (pc' := 61) dX6_gather_58 rfl rf_6_25 rfl rfl (by omega) ?_
          refine go_aload_n (pc' := 62) dX6_gather_61 rfl rfl (Nat.le_of_ble_eq_true rfl) ?_
          refine go_getI (pc' := 65) dX6_gather_62 rfl rf_6_202 rfl ?_
          refine go_iload_n (pc' := 66) dX6_gather_65 rfl rfl ?_
          obtain ⟨g13, h⟩ := gd h
          refine go_iast (pc' := 67) dX6_gather_66 rfl g13 ?_
          refine go_aload_n (pc' := 68) dX6_gather_67 rfl rfl (Nat.le_of_ble_eq_true rfl) ?_
          refine go_getR (k' := 12) (L0 := 50) (P' := 122) (pc' := 71) dX6_gather_68 rfl rf_6_28 rfl rfl (by omega) ?_
          refine go_aload_n (pc' := 72) dX6_gather_71 rfl rfl (Nat.le_of_ble_eq_true rfl) ?_
          refine go_getI (pc' := 75) dX6_gather_72 rfl rf_6_202 rfl ?_
          refine go_iload (pc' := 77) dX6_gather_75 rfl rfl ?_
          obtain ⟨g14, h⟩ := gd h
          refine go_iast (pc' := 78) dX6_gather_77 rfl g14 ?_
          refine go_aload_n (pc' := 79) dX6_gather_78 rfl rfl (Nat.le_of_ble_eq_true rfl) ?_
          refine go_getR (k' := 12) (L0 := 50) (P' := 123) (pc' := 82) dX6_gather_79 rfl rf_6_31 rfl rfl (by omega) ?_
          refine go_aload_n (pc' := 83) dX6_gather_82 rfl rfl (Nat.le_of_ble_eq_true rfl) ?_
          refine go_getI (pc' := 86) dX6_gather_83 rfl rf_6_202 rfl ?_
          refine go_aload_n (pc' := 87) dX6_gather_86 rfl rfl (Nat.le_of_ble_eq_true rfl) ?_
          refine go_getR (k' := 7) (L0 := 0) (P' := 1) (pc' := 90) dX6_gather_87 rfl rf_6_37 rfl rfl (by omega) ?_
          refine go_getR (k' := 9) (L0 := 0) (P' := 92) (pc' := 93) dX6_gather_90 rfl rf_6_129 rfl rfl (by omega) ?_
          refine go_aload_n (pc' := 94) dX6_gather_93 rfl rfl (Nat.le_of_ble_eq_true rfl) ?_
          refine go_getR (k' := 1) (L0 := 0) (P' := 101) (pc' := 97) dX6_gather_94 rfl rf_6_45 rfl rfl (by omega) ?_
          refine go_iload_n (pc' := 98) dX6_gather_97 rfl rfl ?_
          obtain ⟨v15, k16, h⟩ := bd h
          have k16 := l_FR_cellAt (d + 1) n e (hset (hset σ2 121 (σ2 116 9) y1) 122 ((hset σ2 121 (σ2 116 9) y1) 116 9) j5) y1 _ k16
          refine go_call (kc := 99) (Mc := mt99) (v := some (pvI v15)) (w' := (true, n, e, (hset (hset σ2 121 (σ2 116 9) y1) 122 ((hset σ2 121 (σ2 116 9) y1) 116 9) j5))) (pc' := 101) (st' := [pvI v15, pvR 9 0 92, pvI ((hset (hset σ2 121 (σ2 116 9) y1) 122 ((hset σ2 121 (σ2 116 9) y1) 116 9) j5) 116 9), pvR 12 50 123]) [pvR 1 0 101, pvI y1] [pvR 9 0 92, pvI ((hset (hset σ2 121 (σ2 116 9) y1) 122 ((hset σ2 121 (σ2 116 9) y1) 116 9) j5) 116 9), pvR 12 50 123] (Or.inl rfl) dX6_gather_98 rfl rm_6_222 mtE99 rfl rfl rfl (Nat.le_of_ble_eq_true rfl) (Or.inr ⟨_, _, 101, rfl, Or.inl rfl⟩) k16 rfl ?_
          refine go_iconst (pc' := 102) dX6_gather_101 rfl (r32_c rfl) ?_
          obtain ⟨v17, k18, h⟩ := bd h
          have k18 := l_C_memberOf (d + 2) n e (hset (hset σ2 121 (σ2 116 9) y1) 122 ((hset σ2 121 (σ2 116 9) y1) 116 9) j5) v15 0 _ k18
          refine go_call (kc := 79) (Mc := mt79) (v := some (pvI v17)) (w' := (true, n, e, (hset (hset σ2 121 (σ2 116 9) y1) 122 ((hset σ2 121 (σ2 116 9) y1) 116 9) j5))) (pc' := 105) (st' := [pvI v17, pvR 9 0 92, pvI ((hset (hset σ2 121 (σ2 116 9) y1) 122 ((hset σ2 121 (σ2 116 9) y1) 116 9) j5) 116 9), pvR 12 50 123]) [pvI v15, pvI 0] [pvR 9 0 92, pvI ((hset (hset σ2 121 (σ2 116 9) y1) 122 ((hset σ2 121 (σ2 116 9) y1) 116 9) j5) 116 9), pvR 12 50 123] (Or.inr (Or.inr (Or.inr (Or.inl rfl)))) dX6_gather_102 rfl rm_6_84 mtE79 rfl rfl rfl (Nat.le_of_ble_eq_true rfl) (Or.inl (by decide)) k18 rfl ?_
          obtain ⟨v19, k20, h⟩ := bd h
          have k20 := l_TO_placeOf (d + 2) n e (hset (hset σ2 121 (σ2 116 9) y1) 122 ((hset σ2 121 (σ2 116 9) y1) 116 9) j5) v17 _ k20
          refine go_call (kc := 30) (Mc := mt30) (v := some (pvI v19)) (w' := (true, n, e, (hset (hset σ2 121 (σ2 116 9) y1) 122 ((hset σ2 121 (σ2 116 9) y1) 116 9) j5))) (pc' := 108) (st' := [pvI v19, pvI ((hset (hset σ2 121 (σ2 116 9) y1) 122 ((hset σ2 121 (σ2 116 9) y1) 116 9) j5) 116 9), pvR 12 50 123]) [pvR 9 0 92, pvI v17] [pvI ((hset (hset σ2 121 (σ2 116 9) y1) 122 ((hset σ2 121 (σ2 116 9) y1) 116 9) j5) 116 9), pvR 12 50 123] (Or.inl rfl) dX6_gather_105 rfl rm_6_228 mtE30 rfl rfl rfl (Nat.le_of_ble_eq_true rfl) (Or.inr ⟨_, _, 92, rfl, Or.inl rfl⟩) k20 rfl ?_
          obtain ⟨g21, h⟩ := gd h
          refine go_iast (pc' := 109) dX6_gather_108 rfl g21 ?_
          refine go_aload_n (pc' := 110) dX6_gather_109 rfl rfl (Nat.le_of_ble_eq_true rfl) ?_
          refine go_dup (pc' := 111) dX6_gather_110 rfl (Nat.ne_of_beq_eq_false rfl) ?_
          refine go_getI (pc' := 114) dX6_gather_111 rfl rf_6_202 rfl ?_
          refine go_iconst (pc' := 115) dX6_gather_114 rfl (r32_c rfl) ?_
          obtain ⟨g22, h⟩ := gd h
          refine go_iadd (pc' := 116) dX6_gather_115 rfl g22 ?_
          refine go_putI (pc' := 119) dX6_gather_116 rfl rf_6_202 rfl ?_
          cases h
          exact k12J
      clear h
      have h := k6
      refine go_icmp_ne (t := 49) (pc' := 30) dX6_gather_27 rfl rfl (fun c25 => ?_) (fun c25 => ?_)
      · rw [if_pos (show v3 ≠ x2 from c25)] at h
        refine go_iconst (pc' := 50) dX6_gather_49 rfl (r32_c rfl) ?_
        cases h
        exact k6J
      · rw [if_neg (show ¬ (v3 ≠ x2) from c25)] at h
        refine go_aload_n (pc' := 31) dX6_gather_30 rfl rfl (Nat.le_of_ble_eq_true rfl) ?_
        refine go_getR (k' := 7) (L0 := 0) (P' := 1) (pc' := 34) dX6_gather_31 rfl rf_6_37 rfl rfl (by omega) ?_
        refine go_aload_n (pc' := 35) dX6_gather_34 rfl rfl (Nat.le_of_ble_eq_true rfl) ?_
        refine go_getR (k' := 1) (L0 := 0) (P' := 101) (pc' := 38) dX6_gather_35 rfl rf_6_45 rfl rfl (by omega) ?_
        refine go_iload_n (pc' := 39) dX6_gather_38 rfl rfl ?_
        obtain ⟨v7, k8, h⟩ := bd h
        have k8 := l_FR_cellAt (d + 1) n e σ2 y1 _ k8
        refine go_call (kc := 99) (Mc := mt99) (v := some (pvI v7)) (w' := (true, n, e, σ2)) (pc' := 42) (st' := [pvI v7, pvR 7 0 1]) [pvR 1 0 101, pvI y1] [pvR 7 0 1] (Or.inl rfl) dX6_gather_39 rfl rm_6_222 mtE99 rfl rfl rfl (Nat.le_of_ble_eq_true rfl) (Or.inr ⟨_, _, 101, rfl, Or.inl rfl⟩) k8 rfl ?_
        refine go_iload_n (pc' := 43) dX6_gather_42 rfl rfl ?_
        obtain ⟨v9, k10, h⟩ := bd h
        have k10 := l_S_weight (d + 0) n e σ2 v7 x1 _ k10
        refine go_call (kc := 91) (Mc := mt91) (v := some (pvI v9)) (w' := (true, n, e, σ2)) (pc' := 46) (st' := [pvI v9]) [pvR 7 0 1, pvI v7, pvI x1] [] (Or.inl rfl) dX6_gather_43 rfl rm_6_225 mtE91 rfl rfl rfl (Nat.le_of_ble_eq_true rfl) (Or.inr ⟨_, _, 1, rfl, Or.inl rfl⟩) k10 rfl ?_
        refine go_goto (t := 50) dX6_gather_46 rfl ?_
        cases h
        exact k6J

set_option maxRecDepth 10000 in
theorem l_R_gather (d : Nat) (n e : Nat) (σ : Hp) (x1 : Int) (x2 : Int) (r : Hp) (h : f_R_gather σ x1 x2 = some r) : Ev (d + 4) 113 [pvR 6 0 116, pvI x1, pvI x2] (true, n, e, σ) (0, none, true, n, e, r) := by
  unfold f_R_gather at h
  refine Ev.of mtE113 rfl rfl rfl rfl ?_
  show Go none (Ev (d + 3)) mt113 0 [some (pvR 6 0 116), some (pvI x1), some (pvI x2), none, none] [] (true, n, e, σ) (0, none, true, n, e, r)
  refine go_aload_n (pc' := 1) dX6_gather_0 rfl rfl (Nat.le_of_ble_eq_true rfl) ?_
  refine go_iconst (pc' := 2) dX6_gather_1 rfl (r32_c rfl) ?_
  refine go_putI (pc' := 5) dX6_gather_2 rfl rf_6_202 rfl ?_
  refine go_iconst (pc' := 6) dX6_gather_5 rfl (r32_c rfl) ?_
  refine go_istore_n (L' := [some (pvR 6 0 116), some (pvI x1), some (pvI x2), some (pvI 0), none]) (pc' := 7) dX6_gather_6 rfl (Nat.le_of_ble_eq_true rfl) rfl ?_
  obtain ⟨j28, k29, h⟩ := bd h
  refine l_R_gather_7 d n e x1 x2 zFuel 0 (hset σ 116 9 0) _ k29 ?_
  cases h
  exact go_vret dX6_gather_125 rfl rfl

set_option maxRecDepth 10000 in
theorem l_C_bounded (d : Nat) (n e : Nat) (σ : Hp) (x1 : Int) (r : Int) (h : f_C_bounded σ x1 = some r) : Ev (d + 1) 116 [pvL x1] (true, n, e, σ) (0, some (pvL r), true, n, e, σ) := by
  unfold f_C_bounded at h
  refine Ev.of mtE116 rfl rfl rfl rfl ?_
  show Go none (Ev (d + 0)) mt116 0 [some (pvL x1), none] [] (true, n, e, σ) (0, some (pvL r), true, n, e, σ)
  refine go_ldc2 (pc' := 3) dX10_bounded_0 rfl (r64_c rfl) rc_10_349 ?_
  refine go_ldc2 (pc' := 6) dX10_bounded_3 rfl (r64_c rfl) rc_10_351 ?_
  refine go_lload_n (pc' := 7) dX10_bounded_6 rfl rfl ?_
  refine go_lmin (pc' := 10) dX10_bounded_7 rfl rm_10_353 (Nat.le_of_ble_eq_true rfl) ?_
  refine go_lmax (pc' := 13) dX10_bounded_10 rfl rm_10_359 (Nat.le_of_ble_eq_true rfl) ?_
  cases h
  exact go_lret dX10_bounded_13 rfl rfl

set_option maxRecDepth 10000 in
theorem l_R_ratio (d : Nat) (n e : Nat) (σ : Hp) (x1 : Int) (x2 : Int) (r : Int) (h : f_R_ratio σ x1 x2 = some r) : Ev (d + 2) 115 [pvL x1, pvL x2] (true, n, e, σ) (0, some (pvL r), true, n, e, σ) := by
  unfold f_R_ratio at h
  refine Ev.of mtE115 rfl rfl rfl rfl ?_
  show Go none (Ev (d + 1)) mt115 0 [some (pvL x1), none, some (pvL x2), none] [] (true, n, e, σ) (0, some (pvL r), true, n, e, σ)
  refine go_lload_n (pc' := 1) dX6_ratio_0 rfl rfl ?_
  refine go_ldc2 (pc' := 4) dX6_ratio_1 rfl (r64_c rfl) rc_6_66 ?_
  refine go_lcmp (pc' := 5) dX6_ratio_4 rfl ?_
  refine go_if_eq (t := 22) (pc' := 8) dX6_ratio_5 rfl rfl (fun c7 => ?_) (fun c7 => ?_)
  · rw [if_pos (show (lcm x1 (-9223372036854775808)) = 0 from c7)] at h
    refine go_ldc2 (pc' := 25) dX6_ratio_22 rfl (r64_c rfl) rc_6_66 ?_
    cases h
    exact go_lret dX6_ratio_25 rfl rfl
  · rw [if_neg (show ¬ ((lcm x1 (-9223372036854775808)) = 0) from c7)] at h
    refine go_lload_n (pc' := 9) dX6_ratio_8 rfl rfl ?_
    refine go_ldc2 (pc' := 12) dX6_ratio_9 rfl (r64_c rfl) rc_6_66 ?_
    refine go_lcmp (pc' := 13) dX6_ratio_12 rfl ?_
    refine go_if_eq (t := 22) (pc' := 16) dX6_ratio_13 rfl rfl (fun c6 => ?_) (fun c6 => ?_)
    · rw [if_pos (show (lcm x2 (-9223372036854775808)) = 0 from c6)] at h
      refine go_ldc2 (pc' := 25) dX6_ratio_22 rfl (r64_c rfl) rc_6_66 ?_
      cases h
      exact go_lret dX6_ratio_25 rfl rfl
    · rw [if_neg (show ¬ ((lcm x2 (-9223372036854775808)) = 0) from c6)] at h
      refine go_lload_n (pc' := 17) dX6_ratio_16 rfl rfl ?_
      refine go_lconst (z := 0) (pc' := 18) dX6_ratio_17 rfl rfl ?_
      refine go_lcmp (pc' := 19) dX6_ratio_18 rfl ?_
      refine go_if_ne (t := 26) (pc' := 22) dX6_ratio_19 rfl rfl (fun c5 => ?_) (fun c5 => ?_)
      · rw [if_pos (show (lcm x2 0) ≠ 0 from c5)] at h
        refine go_ldc2 (pc' := 29) dX6_ratio_26 rfl (r64_c rfl) rc_6_166 ?_
        refine go_lload_n (pc' := 30) dX6_ratio_29 rfl rfl ?_
        obtain ⟨g1, h⟩ := gd h
        refine go_lmul (pc' := 31) dX6_ratio_30 rfl g1 ?_
        refine go_lload_n (pc' := 32) dX6_ratio_31 rfl rfl ?_
        obtain ⟨g2, h⟩ := gd h
        refine go_ldiv (pc' := 33) dX6_ratio_32 rfl g2 ?_
        obtain ⟨v3, k4, h⟩ := bd h
        have k4 := l_C_bounded (d + 0) n e σ (Int.tdiv (1000 * x1) x2) _ k4
        refine go_call (kc := 116) (Mc := mt116) (v := some (pvL v3)) (w' := (true, n, e, σ)) (pc' := 36) (st' := [pvL v3]) [pvL (Int.tdiv (1000 * x1) x2)] [] (Or.inr (Or.inr (Or.inr (Or.inl rfl)))) dX6_ratio_33 rfl rm_6_153 mtE116 rfl rfl rfl (Nat.le_of_ble_eq_true rfl) (Or.inl (by decide)) k4 rfl ?_
        cases h
        exact go_lret dX6_ratio_36 rfl rfl
      · rw [if_neg (show ¬ ((lcm x2 0) ≠ 0) from c5)] at h
        refine go_ldc2 (pc' := 25) dX6_ratio_22 rfl (r64_c rfl) rc_6_66 ?_
        cases h
        exact go_lret dX6_ratio_25 rfl rfl

set_option maxRecDepth 10000 in
theorem l_R_different_17 (d : Nat) (n : Nat) (e : Nat) (σ : Hp) (y1 : Int) (y2 : Int) {out : Out} : ∀ (F : Nat) (y3 : Int) (y4 : Int) (j17 : Int × Int), f_R_different_17 σ y2 F y3 y4 = some j17 → Go none (Ev (d + 2)) mt117 69 [some (pvR 6 0 116), some (pvI y1), some (pvI y2), some (pvI j17.1), some (pvI j17.2)] [] (true, n, e, σ) out → Go none (Ev (d + 2)) mt117 17 [some (pvR 6 0 116), some (pvI y1), some (pvI y2), some (pvI y3), some (pvI y4)] [] (true, n, e, σ) out := by
  intro F
  induction F with
  | zero =>
    intro _ _ _ h
    intro _
    rw [f_R_different_17] at h
    cases h
  | succ F ih =>
    intro y3 y4 j17 h hx
    rw [f_R_different_17] at h
    refine go_iload (pc' := 19) dX6_different_17 rfl rfl ?_
    refine go_iload_n (pc' := 20) dX6_different_19 rfl rfl ?_
    refine go_icmp_ge (t := 69) (pc' := 23) dX6_different_20 rfl rfl (fun c16 => ?_) (fun c16 => ?_)
    · rw [if_pos (show y2 ≤ y4 from c16)] at h
      cases h
      exact hx
    · rw [if_neg (show ¬ (y2 ≤ y4) from c16)] at h
      refine go_iload_n (pc' := 24) dX6_different_23 rfl rfl ?_
      refine go_if_eq (t := 69) (pc' := 27) dX6_different_24 rfl rfl (fun c15 => ?_) (fun c15 => ?_)
      · rw [if_pos (show y3 = 0 from c15)] at h
        cases h
        exact hx
      · rw [if_neg (show ¬ (y3 = 0) from c15)] at h
        refine go_aload_n (pc' := 28) dX6_different_27 rfl rfl (Nat.le_of_ble_eq_true rfl) ?_
        refine go_getR (k' := 1) (L0 := 0) (P' := 101) (pc' := 31) dX6_different_28 rfl rf_6_45 rfl rfl (by omega) ?_
        refine go_aload_n (pc' := 32) dX6_different_31 rfl rfl (Nat.le_of_ble_eq_true rfl) ?_
        refine go_getR (k' := 12) (L0 := 50) (P' := 121) (pc' := 35) dX6_different_32 rfl rf_6_25 rfl rfl (by omega) ?_
        refine go_iload (pc' := 37) dX6_different_35 rfl rfl ?_
        obtain ⟨g5, h⟩ := gd h
        refine go_iald (pc' := 38) dX6_different_37 rfl g5 ?_
        obtain ⟨v6, k7, h⟩ := bd h
        have k7 := l_FR_numberAt (d + 0) n e σ (σ 121 y4) _ k7
        refine go_call (kc := 96) (Mc := mt96) (v := some (pvI v6)) (w' := (true, n, e, σ)) (pc' := 41) (st' := [pvI v6]) [pvR 1 0 101, pvI (σ 121 y4)] [] (Or.inl rfl) dX6_different_38 rfl rm_6_234 mtE96 rfl rfl rfl (Nat.le_of_ble_eq_true rfl) (Or.inr ⟨_, _, 101, rfl, Or.inl rfl⟩) k7 rfl ?_
        refine go_aload_n (pc' := 42) dX6_different_41 rfl rfl (Nat.le_of_ble_eq_true rfl) ?_
        refine go_getR (k' := 1) (L0 := 0) (P' := 101) (pc' := 45) dX6_different_42 rfl rf_6_45 rfl rfl (by omega) ?_
        refine go_aload_n (pc' := 46) dX6_different_45 rfl rfl (Nat.le_of_ble_eq_true rfl) ?_
        refine go_getR (k' := 12) (L0 := 50) (P' := 121) (pc' := 49) dX6_different_46 rfl rf_6_25 rfl rfl (by omega) ?_
        refine go_iload_n (pc' := 50) dX6_different_49 rfl rfl ?_
        obtain ⟨g8, h⟩ := gd h
        refine go_iald (pc' := 51) dX6_different_50 rfl g8 ?_
        obtain ⟨v9, k10, h⟩ := bd h
        have k10 := l_FR_numberAt (d + 0) n e σ (σ 121 y2) _ k10
        refine go_call (kc := 96) (Mc := mt96) (v := some (pvI v9)) (w' := (true, n, e, σ)) (pc' := 54) (st' := [pvI v9, pvI v6]) [pvR 1 0 101, pvI (σ 121 y2)] [pvI v6] (Or.inl rfl) dX6_different_51 rfl rm_6_234 mtE96 rfl rfl rfl (Nat.le_of_ble_eq_true rfl) (Or.inr ⟨_, _, 101, rfl, Or.inl rfl⟩) k10 rfl ?_
        obtain ⟨j11, k12, h⟩ := bd h
        have k12J : Go none (Ev (d + 2)) mt117 62 [some (pvR 6 0 116), some (pvI y1), some (pvI y2), some (pvI y3), some (pvI y4)] [pvI j11] (true, n, e, σ) out := by
          refine go_istore_n (L' := [some (pvR 6 0 116), some (pvI y1), some (pvI y2), some (pvI j11), some (pvI y4)]) (pc' := 63) dX6_different_62 rfl (Nat.le_of_ble_eq_true rfl) rfl ?_
          obtain ⟨g13, h⟩ := gd h
          refine go_iinc (L' := [some (pvR 6 0 116), some (pvI y1), some (pvI y2), some (pvI j11), some (pvI (y4 + 1))]) (pc' := 66) dX6_different_63 rfl rfl g13 rfl ?_
          refine go_goto (t := 17) dX6_different_66 rfl ?_
          exact ih j11 (y4 + 1) _ h hx
        clear h
        have h := k12
        refine go_icmp_eq (t := 61) (pc' := 57) dX6_different_54 rfl rfl (fun c14 => ?_) (fun c14 => ?_)
        · rw [if_pos (show v6 = v9 from c14)] at h
          refine go_iconst (pc' := 62) dX6_different_61 rfl (r32_c rfl) ?_
          cases h
          exact k12J
        · rw [if_neg (show ¬ (v6 = v9) from c14)] at h
          refine go_iconst (pc' := 58) dX6_different_57 rfl (r32_c rfl) ?_
          refine go_goto (t := 62) dX6_different_58 rfl ?_
          cases h
          exact k12J

set_option maxRecDepth 10000 in
theorem l_R_different_4 (d : Nat) (n : Nat) (e : Nat) (σ : Hp) {out : Out} : ∀ (F : Nat) (y1 : Int) (y2 : Int) (j26 : Int × Int), f_R_different_4 σ F y1 y2 = some j26 → Go none (Ev (d + 2)) mt117 82 [some (pvR 6 0 116), some (pvI j26.1), some (pvI j26.2), none, none] [] (true, n, e, σ) out → Go none (Ev (d + 2)) mt117 4 [some (pvR 6 0 116), some (pvI y1), some (pvI y2), none, none] [] (true, n, e, σ) out := by
  intro F
  induction F with
  | zero =>
    intro _ _ _ h
    intro _
    rw [f_R_different_4] at h
    cases h
  | succ F ih =>
    intro y1 y2 j26 h hx
    rw [f_R_different_4] at h
    refine go_iload_n (pc' := 5) dX6_different_4 rfl rfl ?_
    refine go_aload_n (pc' := 6) dX6_different_5 rfl rfl (Nat.le_of_ble_eq_true rfl) ?_
    refine go_getI (pc' := 9) dX6_different_6 rfl rf_6_202 rfl ?_
    refine go_icmp_ge (t := 82) (pc' := 12) dX6_different_9 rfl rfl (fun c25 => ?_) (fun c25 => ?_)
    · rw [if_pos (show (σ 116 9) ≤ y2 from c25)] at h
      cases h
      exact hx
    · rw [if_neg (show ¬ ((σ 116 9) ≤ y2) from c25)] at h
      refine go_iconst (pc' := 13) dX6_different_12 rfl (r32_c rfl) ?_
      refine go_istore_n (L' := [some (pvR 6 0 116), some (pvI y1), some (pvI y2), some (pvI 1), none]) (pc' := 14) dX6_different_13 rfl (Nat.le_of_ble_eq_true rfl) rfl ?_
      refine go_iconst (pc' := 15) dX6_different_14 rfl (r32_c rfl) ?_
      refine go_istore (L' := [some (pvR 6 0 116), some (pvI y1), some (pvI y2), some (pvI 1), some (pvI 0)]) (pc' := 17) dX6_different_15 rfl (Nat.le_of_ble_eq_true rfl) rfl ?_
      obtain ⟨j18, k19, h⟩ := bd h
      refine l_R_different_17 d n e σ y1 y2 zFuel 1 0 _ k19 ?_
      refine go_iload_n (pc' := 70) dX6_different_69 rfl rfl ?_
      obtain ⟨j20, k21, h⟩ := bd h
      have k21J : Go none (Ev (d + 2)) mt117 76 [some (pvR 6 0 116), some (pvI j20), some (pvI y2), some (pvI j18.1), some (pvI j18.2)] [] (true, n, e, σ) out := by
        obtain ⟨g23, h⟩ := gd h
        refine go_iinc (L' := [some (pvR 6 0 116), some (pvI j20), some (pvI (y2 + 1)), some (pvI j18.1), some (pvI j18.2)]) (pc' := 79) dX6_different_76 rfl rfl g23 rfl ?_
        refine go_goto (t := 4) dX6_different_79 rfl ?_
        exact go_sub (ih j20 (y2 + 1) _ h hx) ⟨Or.inr rfl, Or.inr rfl, Or.inr rfl, Or.inl rfl, Or.inl rfl, trivial⟩
      clear h
      have h := k21
      refine go_if_eq (t := 76) (pc' := 73) dX6_different_70 rfl rfl (fun c24 => ?_) (fun c24 => ?_)
      · rw [if_pos (show j18.1 = 0 from c24)] at h
        cases h
        exact k21J
      · rw [if_neg (show ¬ (j18.1 = 0) from c24)] at h
        obtain ⟨g22, h⟩ := gd h
        refine go_iinc (L' := [some (pvR 6 0 116), some (pvI (y1 + 1)), some (pvI y2), some (pvI j18.1), some (pvI j18.2)]) (pc' := 76) dX6_different_73 rfl rfl g22 rfl ?_
        cases h
        exact k21J

set_option maxRecDepth 10000 in
theorem l_R_different (d : Nat) (n e : Nat) (σ : Hp) (r : Int) (h : f_R_different σ = some r) : Ev (d + 3) 117 [pvR 6 0 116] (true, n, e, σ) (0, some (pvL r), true, n, e, σ) := by
  unfold f_R_different at h
  refine Ev.of mtE117 rfl rfl rfl rfl ?_
  show Go none (Ev (d + 2)) mt117 0 [some (pvR 6 0 116), none, none, none, none] [] (true, n, e, σ) (0, some (pvL r), true, n, e, σ)
  refine go_iconst (pc' := 1) dX6_different_0 rfl (r32_c rfl) ?_
  refine go_istore_n (L' := [some (pvR 6 0 116), some (pvI 0), none, none, none]) (pc' := 2) dX6_different_1 rfl (Nat.le_of_ble_eq_true rfl) rfl ?_
  refine go_iconst (pc' := 3) dX6_different_2 rfl (r32_c rfl) ?_
  refine go_istore_n (L' := [some (pvR 6 0 116), some (pvI 0), some (pvI 0), none, none]) (pc' := 4) dX6_different_3 rfl (Nat.le_of_ble_eq_true rfl) rfl ?_
  obtain ⟨j27, k28, h⟩ := bd h
  refine l_R_different_4 d n e σ zFuel 0 0 _ k28 ?_
  refine go_iload_n (pc' := 83) dX6_different_82 rfl rfl ?_
  refine go_i2l (pc' := 84) dX6_different_83 rfl ?_
  cases h
  exact go_lret dX6_different_84 rfl rfl

set_option maxRecDepth 10000 in
theorem l_R_lastPlace_4 (d : Nat) (n : Nat) (e : Nat) (σ : Hp) {out : Out} : ∀ (F : Nat) (y1 : Int) (y2 : Int) (j6 : Int × Int), f_R_lastPlace_4 σ F y1 y2 = some j6 → Go none (Ev (d + 0)) mt118 29 [some (pvR 6 0 116), some (pvI j6.1), some (pvI j6.2)] [] (true, n, e, σ) out → Go none (Ev (d + 0)) mt118 4 [some (pvR 6 0 116), some (pvI y1), some (pvI y2)] [] (true, n, e, σ) out := by
  intro F
  induction F with
  | zero =>
    intro _ _ _ h
    intro _
    rw [f_R_lastPlace_4] at h
    cases h
  | succ F ih =>
    intro y1 y2 j6 h hx
    rw [f_R_lastPlace_4] at h
    refine go_iload_n (pc' := 5) dX6_lastPlace_4 rfl rfl ?_
    refine go_aload_n (pc' := 6) dX6_lastPlace_5 rfl rfl (Nat.le_of_ble_eq_true rfl) ?_
    refine go_getI (pc' := 9) dX6_lastPlace_6 rfl rf_6_202 rfl ?_
    refine go_icmp_ge (t := 29) (pc' := 12) dX6_lastPlace_9 rfl rfl (fun c5 => ?_) (fun c5 => ?_)
    · rw [if_pos (show (σ 116 9) ≤ y2 from c5)] at h
      cases h
      exact hx
    · rw [if_neg (show ¬ ((σ 116 9) ≤ y2) from c5)] at h
      refine go_iload_n (pc' := 13) dX6_lastPlace_12 rfl rfl ?_
      refine go_aload_n (pc' := 14) dX6_lastPlace_13 rfl rfl (Nat.le_of_ble_eq_true rfl) ?_
      refine go_getR (k' := 12) (L0 := 50) (P' := 123) (pc' := 17) dX6_lastPlace_14 rfl rf_6_31 rfl rfl (by omega) ?_
      refine go_iload_n (pc' := 18) dX6_lastPlace_17 rfl rfl ?_
      obtain ⟨g3, h⟩ := gd h
      refine go_iald (pc' := 19) dX6_lastPlace_18 rfl g3 ?_
      refine go_imax (pc' := 22) dX6_lastPlace_19 rfl rm_6_231 (Nat.le_of_ble_eq_true rfl) ?_
      refine go_istore_n (L' := [some (pvR 6 0 116), some (pvI (max y1 (σ 123 y2))), some (pvI y2)]) (pc' := 23) dX6_lastPlace_22 rfl (Nat.le_of_ble_eq_true rfl) rfl ?_
      obtain ⟨g4, h⟩ := gd h
      refine go_iinc (L' := [some (pvR 6 0 116), some (pvI (max y1 (σ 123 y2))), some (pvI (y2 + 1))]) (pc' := 26) dX6_lastPlace_23 rfl rfl g4 rfl ?_
      refine go_goto (t := 4) dX6_lastPlace_26 rfl ?_
      exact ih (max y1 (σ 123 y2)) (y2 + 1) _ h hx

set_option maxRecDepth 10000 in
theorem l_R_lastPlace (d : Nat) (n e : Nat) (σ : Hp) (r : Int) (h : f_R_lastPlace σ = some r) : Ev (d + 1) 118 [pvR 6 0 116] (true, n, e, σ) (0, some (pvI r), true, n, e, σ) := by
  unfold f_R_lastPlace at h
  refine Ev.of mtE118 rfl rfl rfl rfl ?_
  show Go none (Ev (d + 0)) mt118 0 [some (pvR 6 0 116), none, none] [] (true, n, e, σ) (0, some (pvI r), true, n, e, σ)
  refine go_iconst (pc' := 1) dX6_lastPlace_0 rfl (r32_c rfl) ?_
  refine go_istore_n (L' := [some (pvR 6 0 116), some (pvI (-1)), none]) (pc' := 2) dX6_lastPlace_1 rfl (Nat.le_of_ble_eq_true rfl) rfl ?_
  refine go_iconst (pc' := 3) dX6_lastPlace_2 rfl (r32_c rfl) ?_
  refine go_istore_n (L' := [some (pvR 6 0 116), some (pvI (-1)), some (pvI 0)]) (pc' := 4) dX6_lastPlace_3 rfl (Nat.le_of_ble_eq_true rfl) rfl ?_
  obtain ⟨j7, k8, h⟩ := bd h
  refine l_R_lastPlace_4 d n e σ zFuel (-1) 0 _ k8 ?_
  refine go_iload_n (pc' := 30) dX6_lastPlace_29 rfl rfl ?_
  cases h
  exact go_iret dX6_lastPlace_30 rfl rfl

set_option maxRecDepth 10000 in
theorem l_R_sum_5 (d : Nat) (n : Nat) (e : Nat) (σ : Hp) (x1 : Int) {out : Out} : ∀ (F : Nat) (y1 : Int) (y2 : Int) (j22 : Int × Int), f_R_sum_5 σ x1 F y1 y2 = some j22 → Go none (Ev (d + 2)) mt119 63 [some (pvR 6 0 116), some (pvI x1), some (pvL j22.1), none, some (pvI j22.2)] [] (true, n, e, σ) out → Go none (Ev (d + 2)) mt119 5 [some (pvR 6 0 116), some (pvI x1), some (pvL y1), none, some (pvI y2)] [] (true, n, e, σ) out := by
  intro F
  induction F with
  | zero =>
    intro _ _ _ h
    intro _
    rw [f_R_sum_5] at h
    cases h
  | succ F ih =>
    intro y1 y2 j22 h hx
    rw [f_R_sum_5] at h
    refine go_iload (pc' := 7) dX6_sum_5 rfl rfl ?_
    refine go_aload_n (pc' := 8) dX6_sum_7 rfl rfl (Nat.le_of_ble_eq_true rfl) ?_
    refine go_getI (pc' := 11) dX6_sum_8 rfl rf_6_202 rfl ?_
    refine go_icmp_ge (t := 63) (pc' := 14) dX6_sum_11 rfl rfl (fun c21 => ?_) (fun c21 => ?_)
    · rw [if_pos (show (σ 116 9) ≤ y2 from c21)] at h
      cases h
      exact hx
    · rw [if_neg (show ¬ ((σ 116 9) ≤ y2) from c21)] at h
      refine go_iload_n (pc' := 15) dX6_sum_14 rfl rfl ?_
      refine go_iconst (pc' := 16) dX6_sum_15 rfl (r32_c rfl) ?_
      obtain ⟨j3, k4, h⟩ := bd h
      have k4J : Go none (Ev (d + 2)) mt119 57 [some (pvR 6 0 116), some (pvI x1), some (pvL j3), none, some (pvI y2)] [] (true, n, e, σ) out := by
        obtain ⟨g19, h⟩ := gd h
        refine go_iinc (L' := [some (pvR 6 0 116), some (pvI x1), some (pvL j3), none, some (pvI (y2 + 1))]) (pc' := 60) dX6_sum_57 rfl rfl g19 rfl ?_
        refine go_goto (t := 5) dX6_sum_60 rfl ?_
        exact ih j3 (y2 + 1) _ h hx
      clear h
      have h := k4
      refine go_icmp_eq (t := 30) (pc' := 19) dX6_sum_16 rfl rfl (fun c20 => ?_) (fun c20 => ?_)
      · rw [if_pos (show x1 = (-1) from c20)] at h
        refine go_lload_n (pc' := 31) dX6_sum_30 rfl rfl ?_
        refine go_aload_n (pc' := 32) dX6_sum_31 rfl rfl (Nat.le_of_ble_eq_true rfl) ?_
        refine go_getR (k' := 12) (L0 := 50) (P' := 122) (pc' := 35) dX6_sum_32 rfl rf_6_28 rfl rfl (by omega) ?_
        refine go_iload (pc' := 37) dX6_sum_35 rfl rfl ?_
        obtain ⟨g5, h⟩ := gd h
        refine go_iald (pc' := 38) dX6_sum_37 rfl g5 ?_
        refine go_i2l (pc' := 39) dX6_sum_38 rfl ?_
        refine go_aload_n (pc' := 40) dX6_sum_39 rfl rfl (Nat.le_of_ble_eq_true rfl) ?_
        refine go_getR (k' := 1) (L0 := 0) (P' := 101) (pc' := 43) dX6_sum_40 rfl rf_6_45 rfl rfl (by omega) ?_
        refine go_aload_n (pc' := 44) dX6_sum_43 rfl rfl (Nat.le_of_ble_eq_true rfl) ?_
        refine go_getR (k' := 12) (L0 := 50) (P' := 121) (pc' := 47) dX6_sum_44 rfl rf_6_25 rfl rfl (by omega) ?_
        refine go_iload (pc' := 49) dX6_sum_47 rfl rfl ?_
        obtain ⟨g6, h⟩ := gd h
        refine go_iald (pc' := 50) dX6_sum_49 rfl g6 ?_
        obtain ⟨v7, k8, h⟩ := bd h
        have k8 := l_FR_numberAt (d + 0) n e σ (σ 121 y2) _ k8
        refine go_call (kc := 96) (Mc := mt96) (v := some (pvI v7)) (w' := (true, n, e, σ)) (pc' := 53) (st' := [pvI v7, pvL (σ 122 y2), pvL y1]) [pvR 1 0 101, pvI (σ 121 y2)] [pvL (σ 122 y2), pvL y1] (Or.inl rfl) dX6_sum_50 rfl rm_6_234 mtE96 rfl rfl rfl (Nat.le_of_ble_eq_true rfl) (Or.inr ⟨_, _, 101, rfl, Or.inl rfl⟩) k8 rfl ?_
        refine go_i2l (pc' := 54) dX6_sum_53 rfl ?_
        obtain ⟨g9, h⟩ := gd h
        refine go_lmul (pc' := 55) dX6_sum_54 rfl g9 ?_
        obtain ⟨g10, h⟩ := gd h
        refine go_ladd (pc' := 56) dX6_sum_55 rfl g10 ?_
        refine go_lstore_n (L' := [some (pvR 6 0 116), some (pvI x1), some (pvL (y1 + ((σ 122 y2) * v7))), none, some (pvI y2)]) (pc' := 57) dX6_sum_56 rfl (Nat.le_of_ble_eq_true rfl) rfl ?_
        cases h
        exact k4J
      · rw [if_neg (show ¬ (x1 = (-1)) from c20)] at h
        refine go_aload_n (pc' := 20) dX6_sum_19 rfl rfl (Nat.le_of_ble_eq_true rfl) ?_
        refine go_getR (k' := 12) (L0 := 50) (P' := 123) (pc' := 23) dX6_sum_20 rfl rf_6_31 rfl rfl (by omega) ?_
        refine go_iload (pc' := 25) dX6_sum_23 rfl rfl ?_
        obtain ⟨g11, h⟩ := gd h
        refine go_iald (pc' := 26) dX6_sum_25 rfl g11 ?_
        refine go_iload_n (pc' := 27) dX6_sum_26 rfl rfl ?_
        refine go_icmp_ne (t := 57) (pc' := 30) dX6_sum_27 rfl rfl (fun c18 => ?_) (fun c18 => ?_)
        · rw [if_pos (show (σ 123 y2) ≠ x1 from c18)] at h
          cases h
          exact k4J
        · rw [if_neg (show ¬ ((σ 123 y2) ≠ x1) from c18)] at h
          refine go_lload_n (pc' := 31) dX6_sum_30 rfl rfl ?_
          refine go_aload_n (pc' := 32) dX6_sum_31 rfl rfl (Nat.le_of_ble_eq_true rfl) ?_
          refine go_getR (k' := 12) (L0 := 50) (P' := 122) (pc' := 35) dX6_sum_32 rfl rf_6_28 rfl rfl (by omega) ?_
          refine go_iload (pc' := 37) dX6_sum_35 rfl rfl ?_
          obtain ⟨g12, h⟩ := gd h
          refine go_iald (pc' := 38) dX6_sum_37 rfl g12 ?_
          refine go_i2l (pc' := 39) dX6_sum_38 rfl ?_
          refine go_aload_n (pc' := 40) dX6_sum_39 rfl rfl (Nat.le_of_ble_eq_true rfl) ?_
          refine go_getR (k' := 1) (L0 := 0) (P' := 101) (pc' := 43) dX6_sum_40 rfl rf_6_45 rfl rfl (by omega) ?_
          refine go_aload_n (pc' := 44) dX6_sum_43 rfl rfl (Nat.le_of_ble_eq_true rfl) ?_
          refine go_getR (k' := 12) (L0 := 50) (P' := 121) (pc' := 47) dX6_sum_44 rfl rf_6_25 rfl rfl (by omega) ?_
          refine go_iload (pc' := 49) dX6_sum_47 rfl rfl ?_
          obtain ⟨g13, h⟩ := gd h
          refine go_iald (pc' := 50) dX6_sum_49 rfl g13 ?_
          obtain ⟨v14, k15, h⟩ := bd h
          have k15 := l_FR_numberAt (d + 0) n e σ (σ 121 y2) _ k15
          refine go_call (kc := 96) (Mc := mt96) (v := some (pvI v14)) (w' := (true, n, e, σ)) (pc' := 53) (st' := [pvI v14, pvL (σ 122 y2), pvL y1]) [pvR 1 0 101, pvI (σ 121 y2)] [pvL (σ 122 y2), pvL y1] (Or.inl rfl) dX6_sum_50 rfl rm_6_234 mtE96 rfl rfl rfl (Nat.le_of_ble_eq_true rfl) (Or.inr ⟨_, _, 101, rfl, Or.inl rfl⟩) k15 rfl ?_
          refine go_i2l (pc' := 54) dX6_sum_53 rfl ?_
          obtain ⟨g16, h⟩ := gd h
          refine go_lmul (pc' := 55) dX6_sum_54 rfl g16 ?_
          obtain ⟨g17, h⟩ := gd h
          refine go_ladd (pc' := 56) dX6_sum_55 rfl g17 ?_
          refine go_lstore_n (L' := [some (pvR 6 0 116), some (pvI x1), some (pvL (y1 + ((σ 122 y2) * v14))), none, some (pvI y2)]) (pc' := 57) dX6_sum_56 rfl (Nat.le_of_ble_eq_true rfl) rfl ?_
          cases h
          exact k4J

set_option maxRecDepth 10000 in
theorem l_R_sum (d : Nat) (n e : Nat) (σ : Hp) (x1 : Int) (r : Int) (h : f_R_sum σ x1 = some r) : Ev (d + 3) 119 [pvR 6 0 116, pvI x1] (true, n, e, σ) (0, some (pvL r), true, n, e, σ) := by
  unfold f_R_sum at h
  refine Ev.of mtE119 rfl rfl rfl rfl ?_
  show Go none (Ev (d + 2)) mt119 0 [some (pvR 6 0 116), some (pvI x1), none, none, none] [] (true, n, e, σ) (0, some (pvL r), true, n, e, σ)
  refine go_lconst (z := 0) (pc' := 1) dX6_sum_0 rfl rfl ?_
  refine go_lstore_n (L' := [some (pvR 6 0 116), some (pvI x1), some (pvL 0), none, none]) (pc' := 2) dX6_sum_1 rfl (Nat.le_of_ble_eq_true rfl) rfl ?_
  refine go_iconst (pc' := 3) dX6_sum_2 rfl (r32_c rfl) ?_
  refine go_istore (L' := [some (pvR 6 0 116), some (pvI x1), some (pvL 0), none, some (pvI 0)]) (pc' := 5) dX6_sum_3 rfl (Nat.le_of_ble_eq_true rfl) rfl ?_
  obtain ⟨j23, k24, h⟩ := bd h
  refine l_R_sum_5 d n e σ x1 zFuel 0 0 _ k24 ?_
  refine go_lload_n (pc' := 64) dX6_sum_63 rfl rfl ?_
  cases h
  exact go_lret dX6_sum_64 rfl rfl

set_option maxRecDepth 10000 in
theorem l_R_ofGathered (d : Nat) (n e : Nat) (σ : Hp) (x1 : Int) (r : Int) (h : f_R_ofGathered σ x1 = some r) : Ev (d + 4) 114 [pvR 6 0 116, pvI x1] (true, n, e, σ) (0, some (pvL r), true, n, e, σ) := by
  unfold f_R_ofGathered at h
  refine Ev.of mtE114 rfl rfl rfl rfl ?_
  show Go none (Ev (d + 3)) mt114 0 [some (pvR 6 0 116), some (pvI x1), none] [] (true, n, e, σ) (0, some (pvL r), true, n, e, σ)
  refine go_aload_n (pc' := 1) dX6_ofGathered_0 rfl rfl (Nat.le_of_ble_eq_true rfl) ?_
  refine go_getR (k' := 4) (L0 := 0) (P' := 95) (pc' := 4) dX6_ofGathered_1 rfl rf_6_41 rfl rfl (by omega) ?_
  refine go_iload_n (pc' := 5) dX6_ofGathered_4 rfl rfl ?_
  obtain ⟨v1, k2, h⟩ := bd h
  have k2 := l_MS_kindOf (d + 1) n e σ x1 _ k2
  refine go_call (kc := 80) (Mc := mt80) (v := some (pvI v1)) (w' := (true, n, e, σ)) (pc' := 8) (st' := [pvI v1]) [pvR 4 0 95, pvI x1] [] (Or.inl rfl) dX6_ofGathered_5 rfl rm_6_193 mtE80 rfl rfl rfl (Nat.le_of_ble_eq_true rfl) (Or.inr ⟨_, _, 95, rfl, Or.inl rfl⟩) k2 rfl ?_
  refine go_istore_n (L' := [some (pvR 6 0 116), some (pvI x1), some (pvI v1)]) (pc' := 9) dX6_ofGathered_8 rfl (Nat.le_of_ble_eq_true rfl) rfl ?_
  refine go_iload_n (pc' := 10) dX6_ofGathered_9 rfl rfl ?_
  refine go_iconst (pc' := 11) dX6_ofGathered_10 rfl (r32_c rfl) ?_
  refine go_icmp_ne (t := 46) (pc' := 14) dX6_ofGathered_11 rfl rfl (fun c22 => ?_) (fun c22 => ?_)
  · rw [if_pos (show v1 ≠ 3 from c22)] at h
    refine go_aload_n (pc' := 47) dX6_ofGathered_46 rfl rfl (Nat.le_of_ble_eq_true rfl) ?_
    refine go_getI (pc' := 50) dX6_ofGathered_47 rfl rf_6_202 rfl ?_
    refine go_if_ne (t := 57) (pc' := 53) dX6_ofGathered_50 rfl rfl (fun c15 => ?_) (fun c15 => ?_)
    · rw [if_pos (show (σ 116 9) ≠ 0 from c15)] at h
      refine go_iload_n (pc' := 58) dX6_ofGathered_57 rfl rfl ?_
      refine go_iconst (pc' := 59) dX6_ofGathered_58 rfl (r32_c rfl) ?_
      refine go_icmp_ne (t := 67) (pc' := 62) dX6_ofGathered_59 rfl rfl (fun c14 => ?_) (fun c14 => ?_)
      · rw [if_pos (show v1 ≠ 2 from c14)] at h
        refine go_iload_n (pc' := 68) dX6_ofGathered_67 rfl rfl ?_
        refine go_iconst (pc' := 69) dX6_ofGathered_68 rfl (r32_c rfl) ?_
        obtain ⟨j3, k4, h⟩ := bd h
        have k4J : Go none (Ev (d + 3)) mt114 88 [some (pvR 6 0 116), some (pvI x1), some (pvI v1)] [pvL j3] (true, n, e, σ) (0, some (pvL r), true, n, e, σ) := by
          cases h
          exact go_lret dX6_ofGathered_88 rfl rfl
        clear h
        have h := k4
        refine go_icmp_ne (t := 83) (pc' := 72) dX6_ofGathered_69 rfl rfl (fun c11 => ?_) (fun c11 => ?_)
        · rw [if_pos (show v1 ≠ 1 from c11)] at h
          refine go_aload_n (pc' := 84) dX6_ofGathered_83 rfl rfl (Nat.le_of_ble_eq_true rfl) ?_
          refine go_iconst (pc' := 85) dX6_ofGathered_84 rfl (r32_c rfl) ?_
          obtain ⟨v5, k6, h⟩ := bd h
          have k6 := l_R_sum (d + 0) n e σ (-1) _ k6
          refine go_call (kc := 119) (Mc := mt119) (v := some (pvL v5)) (w' := (true, n, e, σ)) (pc' := 88) (st' := [pvL v5]) [pvR 6 0 116, pvI (-1)] [] (Or.inl rfl) dX6_ofGathered_85 rfl rm_6_213 mtE119 rfl rfl rfl (Nat.le_of_ble_eq_true rfl) (Or.inr ⟨_, _, 116, rfl, Or.inl rfl⟩) k6 rfl ?_
          cases h
          exact k4J
        · rw [if_neg (show ¬ (v1 ≠ 1) from c11)] at h
          refine go_aload_n (pc' := 73) dX6_ofGathered_72 rfl rfl (Nat.le_of_ble_eq_true rfl) ?_
          refine go_aload_n (pc' := 74) dX6_ofGathered_73 rfl rfl (Nat.le_of_ble_eq_true rfl) ?_
          obtain ⟨v7, k8, h⟩ := bd h
          have k8 := l_R_lastPlace (d + 2) n e σ _ k8
          refine go_call (kc := 118) (Mc := mt118) (v := some (pvI v7)) (w' := (true, n, e, σ)) (pc' := 77) (st' := [pvI v7, pvR 6 0 116]) [pvR 6 0 116] [pvR 6 0 116] (Or.inl rfl) dX6_ofGathered_74 rfl rm_6_209 mtE118 rfl rfl rfl (Nat.le_of_ble_eq_true rfl) (Or.inr ⟨_, _, 116, rfl, Or.inl rfl⟩) k8 rfl ?_
          obtain ⟨v9, k10, h⟩ := bd h
          have k10 := l_R_sum (d + 0) n e σ v7 _ k10
          refine go_call (kc := 119) (Mc := mt119) (v := some (pvL v9)) (w' := (true, n, e, σ)) (pc' := 80) (st' := [pvL v9]) [pvR 6 0 116, pvI v7] [] (Or.inl rfl) dX6_ofGathered_77 rfl rm_6_213 mtE119 rfl rfl rfl (Nat.le_of_ble_eq_true rfl) (Or.inr ⟨_, _, 116, rfl, Or.inl rfl⟩) k10 rfl ?_
          refine go_goto (t := 88) dX6_ofGathered_80 rfl ?_
          cases h
          exact k4J
      · rw [if_neg (show ¬ (v1 ≠ 2) from c14)] at h
        refine go_aload_n (pc' := 63) dX6_ofGathered_62 rfl rfl (Nat.le_of_ble_eq_true rfl) ?_
        obtain ⟨v12, k13, h⟩ := bd h
        have k13 := l_R_different (d + 0) n e σ _ k13
        refine go_call (kc := 117) (Mc := mt117) (v := some (pvL v12)) (w' := (true, n, e, σ)) (pc' := 66) (st' := [pvL v12]) [pvR 6 0 116] [] (Or.inl rfl) dX6_ofGathered_63 rfl rm_6_205 mtE117 rfl rfl rfl (Nat.le_of_ble_eq_true rfl) (Or.inr ⟨_, _, 116, rfl, Or.inl rfl⟩) k13 rfl ?_
        cases h
        exact go_lret dX6_ofGathered_66 rfl rfl
    · rw [if_neg (show ¬ ((σ 116 9) ≠ 0) from c15)] at h
      refine go_ldc2 (pc' := 56) dX6_ofGathered_53 rfl (r64_c rfl) rc_6_66 ?_
      cases h
      exact go_lret dX6_ofGathered_56 rfl rfl
  · rw [if_neg (show ¬ (v1 ≠ 3) from c22)] at h
    refine go_aload_n (pc' := 15) dX6_ofGathered_14 rfl rfl (Nat.le_of_ble_eq_true rfl) ?_
    refine go_getR (k' := 13) (L0 := 4) (P' := 120) (pc' := 18) dX6_ofGathered_15 rfl rf_6_22 rfl rfl (by omega) ?_
    refine go_aload_n (pc' := 19) dX6_ofGathered_18 rfl rfl (Nat.le_of_ble_eq_true rfl) ?_
    refine go_getR (k' := 4) (L0 := 0) (P' := 95) (pc' := 22) dX6_ofGathered_19 rfl rf_6_41 rfl rfl (by omega) ?_
    refine go_getR (k' := 12) (L0 := 4) (P' := 97) (pc' := 25) dX6_ofGathered_22 rfl rf_6_196 rfl rfl (by omega) ?_
    refine go_iload_n (pc' := 26) dX6_ofGathered_25 rfl rfl ?_
    obtain ⟨g16, h⟩ := gd h
    refine go_iald (pc' := 27) dX6_ofGathered_26 rfl g16 ?_
    obtain ⟨g17, h⟩ := gd h
    refine go_lald (pc' := 28) dX6_ofGathered_27 rfl g17 ?_
    refine go_aload_n (pc' := 29) dX6_ofGathered_28 rfl rfl (Nat.le_of_ble_eq_true rfl) ?_
    refine go_getR (k' := 13) (L0 := 4) (P' := 120) (pc' := 32) dX6_ofGathered_29 rfl rf_6_22 rfl rfl (by omega) ?_
    refine go_aload_n (pc' := 33) dX6_ofGathered_32 rfl rfl (Nat.le_of_ble_eq_true rfl) ?_
    refine go_getR (k' := 4) (L0 := 0) (P' := 95) (pc' := 36) dX6_ofGathered_33 rfl rf_6_41 rfl rfl (by omega) ?_
    refine go_getR (k' := 12) (L0 := 4) (P' := 98) (pc' := 39) dX6_ofGathered_36 rfl rf_6_199 rfl rfl (by omega) ?_
    refine go_iload_n (pc' := 40) dX6_ofGathered_39 rfl rfl ?_
    obtain ⟨g18, h⟩ := gd h
    refine go_iald (pc' := 41) dX6_ofGathered_40 rfl g18 ?_
    obtain ⟨g19, h⟩ := gd h
    refine go_lald (pc' := 42) dX6_ofGathered_41 rfl g19 ?_
    obtain ⟨v20, k21, h⟩ := bd h
    have k21 := l_R_ratio (d + 1) n e σ (σ 120 (σ 97 x1)) (σ 120 (σ 98 x1)) _ k21
    refine go_call (kc := 115) (Mc := mt115) (v := some (pvL v20)) (w' := (true, n, e, σ)) (pc' := 45) (st' := [pvL v20]) [pvL (σ 120 (σ 97 x1)), pvL (σ 120 (σ 98 x1))] [] (Or.inr (Or.inl rfl)) dX6_ofGathered_42 rfl rm_6_150 mtE115 rfl rfl rfl (Nat.le_of_ble_eq_true rfl) (Or.inl (by decide)) k21 rfl ?_
    cases h
    exact go_lret dX6_ofGathered_45 rfl rfl

set_option maxRecDepth 10000 in
theorem l_R_plainValue_14 (d : Nat) (n : Nat) (e : Nat) (x1 : Int) {out : Out} : ∀ (F : Nat) (y3 : Int) (σ4 : Hp) (j18 : Int × Hp), f_R_plainValue_14 x1 F y3 σ4 = some j18 → Go none (Ev (d + 4)) mt111 65 [some (pvR 6 0 116), some (pvI x1), some (pvI j18.1)] [] (true, n, e, j18.2) out → Go none (Ev (d + 4)) mt111 14 [some (pvR 6 0 116), some (pvI x1), some (pvI y3)] [] (true, n, e, σ4) out := by
  intro F
  induction F with
  | zero =>
    intro _ _ _ h
    intro _
    rw [f_R_plainValue_14] at h
    cases h
  | succ F ih =>
    intro y3 σ4 j18 h hx
    rw [f_R_plainValue_14] at h
    refine go_iload_n (pc' := 15) dX6_plainValue_14 rfl rfl ?_
    refine go_aload_n (pc' := 16) dX6_plainValue_15 rfl rfl (Nat.le_of_ble_eq_true rfl) ?_
    refine go_getI (pc' := 19) dX6_plainValue_16 rfl rf_6_49 rfl ?_
    refine go_icmp_gt (t := 65) (pc' := 22) dX6_plainValue_19 rfl rfl (fun c17 => ?_) (fun c17 => ?_)
    · rw [if_pos (show (σ4 116 3) < y3 from c17)] at h
      cases h
      exact hx
    · rw [if_neg (show ¬ ((σ4 116 3) < y3) from c17)] at h
      refine go_iload_n (pc' := 23) dX6_plainValue_22 rfl rfl ?_
      refine go_iconst (pc' := 24) dX6_plainValue_23 rfl (r32_c rfl) ?_
      refine go_icmp_ge (t := 65) (pc' := 27) dX6_plainValue_24 rfl rfl (fun c16 => ?_) (fun c16 => ?_)
      · rw [if_pos (show 4 ≤ y3 from c16)] at h
        cases h
        exact hx
      · rw [if_neg (show ¬ (4 ≤ y3) from c16)] at h
        refine go_aload_n (pc' := 28) dX6_plainValue_27 rfl rfl (Nat.le_of_ble_eq_true rfl) ?_
        refine go_getR (k' := 4) (L0 := 0) (P' := 95) (pc' := 31) dX6_plainValue_28 rfl rf_6_41 rfl rfl (by omega) ?_
        refine go_aload_n (pc' := 32) dX6_plainValue_31 rfl rfl (Nat.le_of_ble_eq_true rfl) ?_
        refine go_getI (pc' := 35) dX6_plainValue_32 rfl rf_6_49 rfl ?_
        refine go_iload_n (pc' := 36) dX6_plainValue_35 rfl rfl ?_
        obtain ⟨v5, k6, h⟩ := bd h
        have k6 := l_MS_needs (d + 2) n e σ4 (σ4 116 3) y3 _ k6
        refine go_call (kc := 87) (Mc := mt87) (v := some (pvI v5)) (w' := (true, n, e, σ4)) (pc' := 39) (st' := [pvI v5]) [pvR 4 0 95, pvI (σ4 116 3), pvI y3] [] (Or.inl rfl) dX6_plainValue_36 rfl rm_6_171 mtE87 rfl rfl rfl (Nat.le_of_ble_eq_true rfl) (Or.inr ⟨_, _, 95, rfl, Or.inl rfl⟩) k6 rfl ?_
        obtain ⟨j7, k8, h⟩ := bd h
        have k8J : Go none (Ev (d + 4)) mt111 59 [some (pvR 6 0 116), some (pvI x1), some (pvI y3)] [] (true, n, e, j7) out := by
          obtain ⟨g14, h⟩ := gd h
          refine go_iinc (L' := [some (pvR 6 0 116), some (pvI x1), some (pvI (y3 + 1))]) (pc' := 62) dX6_plainValue_59 rfl rfl g14 rfl ?_
          refine go_goto (t := 14) dX6_plainValue_62 rfl ?_
          exact ih (y3 + 1) j7 _ h hx
        clear h
        have h := k8
        refine go_if_eq (t := 59) (pc' := 42) dX6_plainValue_39 rfl rfl (fun c15 => ?_) (fun c15 => ?_)
        · rw [if_pos (show v5 = 0 from c15)] at h
          cases h
          exact k8J
        · rw [if_neg (show ¬ (v5 = 0) from c15)] at h
          refine go_aload_n (pc' := 43) dX6_plainValue_42 rfl rfl (Nat.le_of_ble_eq_true rfl) ?_
          refine go_iload_n (pc' := 44) dX6_plainValue_43 rfl rfl ?_
          refine go_iload_n (pc' := 45) dX6_plainValue_44 rfl rfl ?_
          obtain ⟨v9, k10, h⟩ := bd h
          have k10 := l_R_gather (d + 0) n e σ4 x1 y3 _ k10
          refine go_call (kc := 113) (Mc := mt113) (v := none) (w' := (true, n, e, v9)) (pc' := 48) (st' := []) [pvR 6 0 116, pvI x1, pvI y3] [] (Or.inl rfl) dX6_plainValue_45 rfl rm_6_177 mtE113 rfl rfl rfl (Nat.le_of_ble_eq_true rfl) (Or.inr ⟨_, _, 116, rfl, Or.inl rfl⟩) k10 rfl ?_
          refine go_aload_n (pc' := 49) dX6_plainValue_48 rfl rfl (Nat.le_of_ble_eq_true rfl) ?_
          refine go_getR (k' := 13) (L0 := 4) (P' := 120) (pc' := 52) dX6_plainValue_49 rfl rf_6_22 rfl rfl (by omega) ?_
          refine go_iload_n (pc' := 53) dX6_plainValue_52 rfl rfl ?_
          refine go_aload_n (pc' := 54) dX6_plainValue_53 rfl rfl (Nat.le_of_ble_eq_true rfl) ?_
          refine go_iload_n (pc' := 55) dX6_plainValue_54 rfl rfl ?_
          obtain ⟨v11, k12, h⟩ := bd h
          have k12 := l_R_ofGathered (d + 0) n e v9 y3 _ k12
          refine go_call (kc := 114) (Mc := mt114) (v := some (pvL v11)) (w' := (true, n, e, v9)) (pc' := 58) (st' := [pvL v11, pvI y3, pvR 13 4 120]) [pvR 6 0 116, pvI y3] [pvI y3, pvR 13 4 120] (Or.inl rfl) dX6_plainValue_55 rfl rm_6_181 mtE114 rfl rfl rfl (Nat.le_of_ble_eq_true rfl) (Or.inr ⟨_, _, 116, rfl, Or.inl rfl⟩) k12 rfl ?_
          obtain ⟨g13, h⟩ := gd h
          refine go_last (pc' := 59) dX6_plainValue_58 rfl g13 ?_
          cases h
          exact k8J

set_option maxRecDepth 10000 in
theorem l_R_plainValue (d : Nat) (n e : Nat) (σ : Hp) (x1 : Int) (r : Int × Hp) (h : f_R_plainValue σ x1 = some r) : Ev (d + 5) 111 [pvR 6 0 116, pvI x1] (true, n, e, σ) (0, some (pvL r.1), true, n, e, r.2) := by
  unfold f_R_plainValue at h
  refine Ev.of mtE111 rfl rfl rfl rfl ?_
  show Go none (Ev (d + 4)) mt111 0 [some (pvR 6 0 116), some (pvI x1), none] [] (true, n, e, σ) (0, some (pvL r.1), true, n, e, r.2)
  refine go_aload_n (pc' := 1) dX6_plainValue_0 rfl rfl (Nat.le_of_ble_eq_true rfl) ?_
  refine go_iload_n (pc' := 2) dX6_plainValue_1 rfl rfl ?_
  obtain ⟨v1, k2, h⟩ := bd h
  have k2 := l_R_meansNothing (d + 1) n e σ x1 _ k2
  refine go_call (kc := 112) (Mc := mt112) (v := some (pvI v1)) (w' := (true, n, e, σ)) (pc' := 5) (st' := [pvI v1]) [pvR 6 0 116, pvI x1] [] (Or.inl rfl) dX6_plainValue_2 rfl rm_6_168 mtE112 rfl rfl rfl (Nat.le_of_ble_eq_true rfl) (Or.inr ⟨_, _, 116, rfl, Or.inl rfl⟩) k2 rfl ?_
  refine go_if_eq (t := 12) (pc' := 8) dX6_plainValue_5 rfl rfl (fun c27 => ?_) (fun c27 => ?_)
  · rw [if_pos (show v1 = 0 from c27)] at h
    refine go_iconst (pc' := 13) dX6_plainValue_12 rfl (r32_c rfl) ?_
    refine go_istore_n (L' := [some (pvR 6 0 116), some (pvI x1), some (pvI 0)]) (pc' := 14) dX6_plainValue_13 rfl (Nat.le_of_ble_eq_true rfl) rfl ?_
    obtain ⟨j19, k20, h⟩ := bd h
    refine l_R_plainValue_14 d n e x1 zFuel 0 σ _ k20 ?_
    refine go_aload_n (pc' := 66) dX6_plainValue_65 rfl rfl (Nat.le_of_ble_eq_true rfl) ?_
    refine go_getR (k' := 4) (L0 := 0) (P' := 95) (pc' := 69) dX6_plainValue_66 rfl rf_6_41 rfl rfl (by omega) ?_
    refine go_aload_n (pc' := 70) dX6_plainValue_69 rfl rfl (Nat.le_of_ble_eq_true rfl) ?_
    refine go_getI (pc' := 73) dX6_plainValue_70 rfl rf_6_49 rfl ?_
    obtain ⟨v21, k22, h⟩ := bd h
    have k22 := l_MS_has (d + 3) n e j19.2 (j19.2 116 3) _ k22
    refine go_call (kc := 69) (Mc := mt69) (v := some (pvI v21)) (w' := (true, n, e, j19.2)) (pc' := 76) (st' := [pvI v21]) [pvR 4 0 95, pvI (j19.2 116 3)] [] (Or.inl rfl) dX6_plainValue_73 rfl rm_6_184 mtE69 rfl rfl rfl (Nat.le_of_ble_eq_true rfl) (Or.inr ⟨_, _, 95, rfl, Or.inl rfl⟩) k22 rfl ?_
    obtain ⟨j23, k24, h⟩ := bd h
    have k24J : Go none (Ev (d + 4)) mt111 94 [some (pvR 6 0 116), some (pvI x1), some (pvI j19.1)] [pvL j23] (true, n, e, j19.2) (0, some (pvL r.1), true, n, e, r.2) := by
      cases h
      exact go_lret dX6_plainValue_94 rfl rfl
    clear h
    have h := k24
    refine go_if_eq (t := 91) (pc' := 79) dX6_plainValue_76 rfl rfl (fun c26 => ?_) (fun c26 => ?_)
    · rw [if_pos (show v21 = 0 from c26)] at h
      refine go_ldc2 (pc' := 94) dX6_plainValue_91 rfl (r64_c rfl) rc_6_66 ?_
      cases h
      exact k24J
    · rw [if_neg (show ¬ (v21 = 0) from c26)] at h
      refine go_aload_n (pc' := 80) dX6_plainValue_79 rfl rfl (Nat.le_of_ble_eq_true rfl) ?_
      refine go_getR (k' := 13) (L0 := 4) (P' := 120) (pc' := 83) dX6_plainValue_80 rfl rf_6_22 rfl rfl (by omega) ?_
      refine go_aload_n (pc' := 84) dX6_plainValue_83 rfl rfl (Nat.le_of_ble_eq_true rfl) ?_
      refine go_getI (pc' := 87) dX6_plainValue_84 rfl rf_6_49 rfl ?_
      obtain ⟨g25, h⟩ := gd h
      refine go_lald (pc' := 88) dX6_plainValue_87 rfl g25 ?_
      refine go_goto (t := 94) dX6_plainValue_88 rfl ?_
      cases h
      exact k24J
  · rw [if_neg (show ¬ (v1 = 0) from c27)] at h
    refine go_ldc2 (pc' := 11) dX6_plainValue_8 rfl (r64_c rfl) rc_6_66 ?_
    cases h
    exact go_lret dX6_plainValue_11 rfl rfl

set_option maxRecDepth 10000 in
theorem l_D_formulaOf (d : Nat) (n e : Nat) (σ : Hp) (p : Nat) (x1 : Int) (r : Int) (h : f_D_formulaOf σ p x1 = some r) : Ev (d + 2) 121 [pvR 0 0 p, pvI x1] (true, n, e, σ) (0, some (pvF r), true, n, e, σ) := by
  unfold f_D_formulaOf at h
  refine Ev.of mtE121 rfl rfl rfl rfl ?_
  show Go none (Ev (d + 1)) mt121 0 [some (pvR 0 0 p), some (pvI x1)] [] (true, n, e, σ) (0, some (pvF r), true, n, e, σ)
  refine go_aload_n (pc' := 1) dX0_formulaOf_0 rfl rfl (Nat.le_of_ble_eq_true rfl) ?_
  refine go_iload_n (pc' := 2) dX0_formulaOf_1 rfl rfl ?_
  obtain ⟨v1, k2, h⟩ := bd h
  have k2 := l_D_has (d + 0) n e σ p x1 _ k2
  refine go_call (kc := 23) (Mc := mt23) (v := some (pvI v1)) (w' := (true, n, e, σ)) (pc' := 5) (st' := [pvI v1]) [pvR 0 0 p, pvI x1] [] (Or.inl rfl) dX0_formulaOf_2 rfl rm_0_65 mtE23 rfl rfl rfl (Nat.le_of_ble_eq_true rfl) (Or.inr ⟨_, _, p, rfl, Or.inl rfl⟩) k2 rfl ?_
  obtain ⟨j3, k4, h⟩ := bd h
  have k4J : Go none (Ev (d + 1)) mt121 18 [some (pvR 0 0 p), some (pvI x1)] [pvF j3] (true, n, e, σ) (0, some (pvF r), true, n, e, σ) := by
    cases h
    exact go_aret dX0_formulaOf_18 (Nat.le_of_ble_eq_true rfl) (Nat.ne_of_beq_eq_false rfl) rfl rfl
  clear h
  have h := k4
  refine go_if_eq (t := 17) (pc' := 8) dX0_formulaOf_5 rfl rfl (fun c6 => ?_) (fun c6 => ?_)
  · rw [if_pos (show v1 = 0 from c6)] at h
    refine go_null (pc' := 18) dX0_formulaOf_17 rfl ?_
    cases h
    exact k4J
  · rw [if_neg (show ¬ (v1 = 0) from c6)] at h
    refine go_aload_n (pc' := 9) dX0_formulaOf_8 rfl rfl (Nat.le_of_ble_eq_true rfl) ?_
    refine go_getR (k' := 15) (L0 := 12) (P' := (p + 11)) (pc' := 12) dX0_formulaOf_9 rfl rf_0_44 rfl rfl (by omega) ?_
    refine go_iload_n (pc' := 13) dX0_formulaOf_12 rfl rfl ?_
    obtain ⟨g5, h⟩ := gd h
    refine go_fald (pc' := 14) dX0_formulaOf_13 rfl g5 ?_
    refine go_goto (t := 18) dX0_formulaOf_14 rfl ?_
    cases h
    exact k4J

set_option maxRecDepth 10000 in
theorem l_C_withMember (d : Nat) (n e : Nat) (σ : Hp) (x1 : Int) (x2 : Int) (x3 : Int) (r : Int) (h : f_C_withMember σ x1 x2 x3 = some r) : Ev (d + 2) 122 [pvI x1, pvI x2, pvI x3] (true, n, e, σ) (0, some (pvI r), true, n, e, σ) := by
  unfold f_C_withMember at h
  refine Ev.of mtE122 rfl rfl rfl rfl ?_
  show Go none (Ev (d + 1)) mt122 0 [some (pvI x1), some (pvI x2), some (pvI x3), none] [] (true, n, e, σ) (0, some (pvI r), true, n, e, σ)
  refine go_iload_n (pc' := 1) dX10_withMember_0 rfl rfl ?_
  obtain ⟨j1, k2, h⟩ := bd h
  have k2J : Go none (Ev (d + 1)) mt122 21 [some (pvI x1), some (pvI x2), some (pvI x3), none] [pvI j1] (true, n, e, σ) (0, some (pvI r), true, n, e, σ) := by
    refine go_istore_n (L' := [some (pvI x1), some (pvI x2), some (pvI x3), some (pvI j1)]) (pc' := 22) dX10_withMember_21 rfl (Nat.le_of_ble_eq_true rfl) rfl ?_
    refine go_iload_n (pc' := 23) dX10_withMember_22 rfl rfl ?_
    refine go_iload_n (pc' := 24) dX10_withMember_23 rfl rfl ?_
    refine go_iload_n (pc' := 25) dX10_withMember_24 rfl rfl ?_
    refine go_iload_n (pc' := 26) dX10_withMember_25 rfl rfl ?_
    obtain ⟨v4, k5, h⟩ := bd h
    have k5 := l_C_memberOf (d + 0) n e σ x1 x2 _ k5
    refine go_call (kc := 79) (Mc := mt79) (v := some (pvI v4)) (w' := (true, n, e, σ)) (pc' := 29) (st' := [pvI v4, pvI x3, pvI x1]) [pvI x1, pvI x2] [pvI x3, pvI x1] (Or.inr (Or.inl rfl)) dX10_withMember_26 rfl rm_10_346 mtE79 rfl rfl rfl (Nat.le_of_ble_eq_true rfl) (Or.inl (by decide)) k5 rfl ?_
    obtain ⟨g6, h⟩ := gd h
    refine go_isub (pc' := 30) dX10_withMember_29 rfl g6 ?_
    refine go_iload_n (pc' := 31) dX10_withMember_30 rfl rfl ?_
    obtain ⟨g7, h⟩ := gd h
    refine go_imul (pc' := 32) dX10_withMember_31 rfl g7 ?_
    obtain ⟨g8, h⟩ := gd h
    refine go_iadd (pc' := 33) dX10_withMember_32 rfl g8 ?_
    cases h
    exact go_iret dX10_withMember_33 rfl rfl
  clear h
  have h := k2
  refine go_if_ne (t := 10) (pc' := 4) dX10_withMember_1 rfl rfl (fun c9 => ?_) (fun c9 => ?_)
  · rw [if_pos (show x2 ≠ 0 from c9)] at h
    refine go_iload_n (pc' := 11) dX10_withMember_10 rfl rfl ?_
    refine go_iconst (pc' := 12) dX10_withMember_11 rfl (r32_c rfl) ?_
    refine go_icmp_ne (t := 20) (pc' := 15) dX10_withMember_12 rfl rfl (fun c3 => ?_) (fun c3 => ?_)
    · rw [if_pos (show x2 ≠ 1 from c3)] at h
      refine go_iconst (pc' := 21) dX10_withMember_20 rfl (r32_c rfl) ?_
      cases h
      exact k2J
    · rw [if_neg (show ¬ (x2 ≠ 1) from c3)] at h
      refine go_bipush (pc' := 17) dX10_withMember_15 rfl (r32_c rfl) (by decide) ?_
      refine go_goto (t := 21) dX10_withMember_17 rfl ?_
      cases h
      exact k2J
  · rw [if_neg (show ¬ (x2 ≠ 0) from c9)] at h
    refine go_sipush (pc' := 7) dX10_withMember_4 rfl (r32_c rfl) (by decide) ?_
    refine go_goto (t := 21) dX10_withMember_7 rfl ?_
    cases h
    exact k2J

set_option maxRecDepth 10000 in
theorem l_R_plus (d : Nat) (n e : Nat) (σ : Hp) (x1 : Int) (x2 : Int) (x3 : Int) (r : Int) (h : f_R_plus σ x1 x2 x3 = some r) : Ev (d + 2) 124 [pvL x1, pvL x2, pvI x3] (true, n, e, σ) (0, some (pvL r), true, n, e, σ) := by
  unfold f_R_plus at h
  refine Ev.of mtE124 rfl rfl rfl rfl ?_
  show Go none (Ev (d + 1)) mt124 0 [some (pvL x1), none, some (pvL x2), none, some (pvI x3)] [] (true, n, e, σ) (0, some (pvL r), true, n, e, σ)
  refine go_lload_n (pc' := 1) dX6_plus_0 rfl rfl ?_
  refine go_ldc2 (pc' := 4) dX6_plus_1 rfl (r64_c rfl) rc_6_66 ?_
  refine go_lcmp (pc' := 5) dX6_plus_4 rfl ?_
  refine go_if_ne (t := 20) (pc' := 8) dX6_plus_5 rfl rfl (fun c22 => ?_) (fun c22 => ?_)
  · rw [if_pos (show (lcm x1 (-9223372036854775808)) ≠ 0 from c22)] at h
    refine go_lload_n (pc' := 21) dX6_plus_20 rfl rfl ?_
    refine go_ldc2 (pc' := 24) dX6_plus_21 rfl (r64_c rfl) rc_6_66 ?_
    refine go_lcmp (pc' := 25) dX6_plus_24 rfl ?_
    obtain ⟨j1, k2, h⟩ := bd h
    have k2J : Go none (Ev (d + 1)) mt124 33 [some (pvL x1), none, some (pvL x2), none, some (pvI x3)] [pvL j1] (true, n, e, σ) (0, some (pvL r), true, n, e, σ) := by
      refine go_lload_n (pc' := 34) dX6_plus_33 rfl rfl ?_
      refine go_ldc2 (pc' := 37) dX6_plus_34 rfl (r64_c rfl) rc_6_66 ?_
      refine go_lcmp (pc' := 38) dX6_plus_37 rfl ?_
      obtain ⟨j3, k4, h⟩ := bd h
      have k4J : Go none (Ev (d + 1)) mt124 50 [some (pvL x1), none, some (pvL x2), none, some (pvI x3)] [pvL j3, pvL j1] (true, n, e, σ) (0, some (pvL r), true, n, e, σ) := by
        obtain ⟨g6, h⟩ := gd h
        refine go_ladd (pc' := 51) dX6_plus_50 rfl g6 ?_
        obtain ⟨v7, k8, h⟩ := bd h
        have k8 := l_C_bounded (d + 0) n e σ (j1 + j3) _ k8
        refine go_call (kc := 116) (Mc := mt116) (v := some (pvL v7)) (w' := (true, n, e, σ)) (pc' := 54) (st' := [pvL v7]) [pvL (j1 + j3)] [] (Or.inr (Or.inr (Or.inr (Or.inl rfl)))) dX6_plus_51 rfl rm_6_153 mtE116 rfl rfl rfl (Nat.le_of_ble_eq_true rfl) (Or.inl (by decide)) k8 rfl ?_
        cases h
        exact go_lret dX6_plus_54 rfl rfl
      clear h
      have h := k4
      refine go_if_ne (t := 45) (pc' := 41) dX6_plus_38 rfl rfl (fun c9 => ?_) (fun c9 => ?_)
      · rw [if_pos (show (lcm x2 (-9223372036854775808)) ≠ 0 from c9)] at h
        refine go_iload (pc' := 47) dX6_plus_45 rfl rfl ?_
        refine go_i2l (pc' := 48) dX6_plus_47 rfl ?_
        refine go_lload_n (pc' := 49) dX6_plus_48 rfl rfl ?_
        obtain ⟨g5, h⟩ := gd h
        refine go_lmul (pc' := 50) dX6_plus_49 rfl g5 ?_
        cases h
        exact k4J
      · rw [if_neg (show ¬ ((lcm x2 (-9223372036854775808)) ≠ 0) from c9)] at h
        refine go_lconst (z := 0) (pc' := 42) dX6_plus_41 rfl rfl ?_
        refine go_goto (t := 50) dX6_plus_42 rfl ?_
        cases h
        exact k4J
    clear h
    have h := k2
    refine go_if_ne (t := 32) (pc' := 28) dX6_plus_25 rfl rfl (fun c10 => ?_) (fun c10 => ?_)
    · rw [if_pos (show (lcm x1 (-9223372036854775808)) ≠ 0 from c10)] at h
      refine go_lload_n (pc' := 33) dX6_plus_32 rfl rfl ?_
      cases h
      exact k2J
    · rw [if_neg (show ¬ ((lcm x1 (-9223372036854775808)) ≠ 0) from c10)] at h
      refine go_lconst (z := 0) (pc' := 29) dX6_plus_28 rfl rfl ?_
      refine go_goto (t := 33) dX6_plus_29 rfl ?_
      cases h
      exact k2J
  · rw [if_neg (show ¬ ((lcm x1 (-9223372036854775808)) ≠ 0) from c22)] at h
    refine go_lload_n (pc' := 9) dX6_plus_8 rfl rfl ?_
    refine go_ldc2 (pc' := 12) dX6_plus_9 rfl (r64_c rfl) rc_6_66 ?_
    refine go_lcmp (pc' := 13) dX6_plus_12 rfl ?_
    refine go_if_ne (t := 20) (pc' := 16) dX6_plus_13 rfl rfl (fun c21 => ?_) (fun c21 => ?_)
    · rw [if_pos (show (lcm x2 (-9223372036854775808)) ≠ 0 from c21)] at h
      refine go_lload_n (pc' := 21) dX6_plus_20 rfl rfl ?_
      refine go_ldc2 (pc' := 24) dX6_plus_21 rfl (r64_c rfl) rc_6_66 ?_
      refine go_lcmp (pc' := 25) dX6_plus_24 rfl ?_
      obtain ⟨j11, k12, h⟩ := bd h
      have k12J : Go none (Ev (d + 1)) mt124 33 [some (pvL x1), none, some (pvL x2), none, some (pvI x3)] [pvL j11] (true, n, e, σ) (0, some (pvL r), true, n, e, σ) := by
        refine go_lload_n (pc' := 34) dX6_plus_33 rfl rfl ?_
        refine go_ldc2 (pc' := 37) dX6_plus_34 rfl (r64_c rfl) rc_6_66 ?_
        refine go_lcmp (pc' := 38) dX6_plus_37 rfl ?_
        obtain ⟨j13, k14, h⟩ := bd h
        have k14J : Go none (Ev (d + 1)) mt124 50 [some (pvL x1), none, some (pvL x2), none, some (pvI x3)] [pvL j13, pvL j11] (true, n, e, σ) (0, some (pvL r), true, n, e, σ) := by
          obtain ⟨g16, h⟩ := gd h
          refine go_ladd (pc' := 51) dX6_plus_50 rfl g16 ?_
          obtain ⟨v17, k18, h⟩ := bd h
          have k18 := l_C_bounded (d + 0) n e σ (j11 + j13) _ k18
          refine go_call (kc := 116) (Mc := mt116) (v := some (pvL v17)) (w' := (true, n, e, σ)) (pc' := 54) (st' := [pvL v17]) [pvL (j11 + j13)] [] (Or.inr (Or.inr (Or.inr (Or.inl rfl)))) dX6_plus_51 rfl rm_6_153 mtE116 rfl rfl rfl (Nat.le_of_ble_eq_true rfl) (Or.inl (by decide)) k18 rfl ?_
          cases h
          exact go_lret dX6_plus_54 rfl rfl
        clear h
        have h := k14
        refine go_if_ne (t := 45) (pc' := 41) dX6_plus_38 rfl rfl (fun c19 => ?_) (fun c19 => ?_)
        · rw [if_pos (show (lcm x2 (-9223372036854775808)) ≠ 0 from c19)] at h
          refine go_iload (pc' := 47) dX6_plus_45 rfl rfl ?_
          refine go_i2l (pc' := 48) dX6_plus_47 rfl ?_
          refine go_lload_n (pc' := 49) dX6_plus_48 rfl rfl ?_
          obtain ⟨g15, h⟩ := gd h
          refine go_lmul (pc' := 50) dX6_plus_49 rfl g15 ?_
          cases h
          exact k14J
        · rw [if_neg (show ¬ ((lcm x2 (-9223372036854775808)) ≠ 0) from c19)] at h
          refine go_lconst (z := 0) (pc' := 42) dX6_plus_41 rfl rfl ?_
          refine go_goto (t := 50) dX6_plus_42 rfl ?_
          cases h
          exact k14J
      clear h
      have h := k12
      refine go_if_ne (t := 32) (pc' := 28) dX6_plus_25 rfl rfl (fun c20 => ?_) (fun c20 => ?_)
      · rw [if_pos (show (lcm x1 (-9223372036854775808)) ≠ 0 from c20)] at h
        refine go_lload_n (pc' := 33) dX6_plus_32 rfl rfl ?_
        cases h
        exact k12J
      · rw [if_neg (show ¬ ((lcm x1 (-9223372036854775808)) ≠ 0) from c20)] at h
        refine go_lconst (z := 0) (pc' := 29) dX6_plus_28 rfl rfl ?_
        refine go_goto (t := 33) dX6_plus_29 rfl ?_
        cases h
        exact k12J
    · rw [if_neg (show ¬ ((lcm x2 (-9223372036854775808)) ≠ 0) from c21)] at h
      refine go_ldc2 (pc' := 19) dX6_plus_16 rfl (r64_c rfl) rc_6_66 ?_
      cases h
      exact go_lret dX6_plus_19 rfl rfl

