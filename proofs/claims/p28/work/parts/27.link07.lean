/-! ===== links: each function is what its bytecode does ===== -/
set_option maxRecDepth 10000 in
theorem l_C_begin (d : Nat) (n e : Nat) (σ : Hp) (r : Nat × Hp) (h : f_C_begin σ = some r) : Ev (d + 2) 158 [pvR 10 0 0] (true, n, e, σ) (r.1, none, true, n, e + if r.1 = 0 then 0 else 1, r.2) := by
  unfold f_C_begin at h
  refine Ev.of mtE158 rfl rfl rfl rfl ?_
  show Go none (Ev (d + 1)) mt158 0 [some (pvR 10 0 0)] [] (true, n, e, σ) (r.1, none, true, n, e + if r.1 = 0 then 0 else 1, r.2)
  refine go_aload_n (pc' := 1) dX10_begin_0 rfl rfl (Nat.le_of_ble_eq_true rfl) ?_
  refine go_getR (k' := 1) (L0 := 0) (P' := 101) (pc' := 4) dX10_begin_1 rfl rf_10_28 rfl rfl (by omega) ?_
  refine go_getZ (pc' := 7) dX10_begin_4 rfl rf_10_313 rfl ?_
  obtain ⟨j1, k2, h⟩ := bd h
  have k2J : Go none (Ev (d + 1)) mt158 15 [some (pvR 10 0 0)] [pvI j1] (true, n, e, σ) (r.1, none, true, n, e + if r.1 = 0 then 0 else 1, r.2) := by
    obtain ⟨v3, k4, h⟩ := bd h
    by_cases c5 : v3 = 0
    · rw [if_pos c5] at h
      have k4 := l_C_need (d + 0) n e σ j1 _ k4
      rw [c5] at k4
      refine go_call (kc := 19) (Mc := mt19) (v := none) (w' := (true, n, e, σ)) (pc' := 18) (st' := []) [pvI j1] [] (Or.inr (Or.inl rfl)) dX10_begin_15 rfl rm_10_84 mtE19 rfl rfl rfl (Nat.le_of_ble_eq_true rfl) (Or.inl (by decide)) k4 rfl ?_
      refine go_aload_n (pc' := 19) dX10_begin_18 rfl rfl (Nat.le_of_ble_eq_true rfl) ?_
      refine go_getR (k' := 1) (L0 := 0) (P' := 101) (pc' := 22) dX10_begin_19 rfl rf_10_28 rfl rfl (by omega) ?_
      obtain ⟨v6, k7, h⟩ := bd h
      have k7 := l_FR_save (d + 0) n e σ _ k7
      refine go_call (kc := 159) (Mc := mt159) (v := none) (w' := (true, n, e, v6)) (pc' := 25) (st' := []) [pvR 1 0 101] [] (Or.inl rfl) dX10_begin_22 rfl rm_10_316 mtE159 rfl rfl rfl (Nat.le_of_ble_eq_true rfl) (Or.inr ⟨_, _, 101, rfl, Or.inl rfl⟩) k7 rfl ?_
      cases h
      exact go_vret dX10_begin_25 rfl rfl
    · rw [if_neg c5] at h
      obtain ⟨g8, h⟩ := gd h
      cases h
      have k4 := l_C_need (d + 0) n e σ j1 _ k4
      simp only [if_neg c5] at k4 ⊢
      exact go_callX (kc := 19) (Mc := mt19) [pvI j1] [] (Or.inr rfl) dX10_begin_15 rm_10_84 mtE19 rfl rfl rfl (Nat.le_of_ble_eq_true rfl) (Or.inl (by decide)) rfl c5 g8 k4 rfl
  clear h
  have h := k2
  refine go_if_ne (t := 14) (pc' := 10) dX10_begin_7 rfl rfl (fun c9 => ?_) (fun c9 => ?_)
  · rw [if_pos (show (σ 101 2) ≠ 0 from c9)] at h
    refine go_iconst (pc' := 15) dX10_begin_14 rfl (r32_c rfl) ?_
    cases h
    exact k2J
  · rw [if_neg (show ¬ ((σ 101 2) ≠ 0) from c9)] at h
    refine go_iconst (pc' := 11) dX10_begin_10 rfl (r32_c rfl) ?_
    refine go_goto (t := 15) dX10_begin_11 rfl ?_
    cases h
    exact k2J

set_option maxRecDepth 10000 in
theorem l_L_begins (d : Nat) (n e : Nat) (σ : Hp) (r : Int × Nat × Hp) (h : f_L_begins σ e = some r) : Ev (d + 3) 157 [pvR 10 0 0] (true, n, e, σ) (0, some (pvI r.1), true, n, r.2.1, r.2.2) := by
  unfold f_L_begins at h
  refine Ev.of mtE157 rfl rfl rfl rfl ?_
  show Go none (Ev (d + 2)) mt157 0 [some (pvR 10 0 0), none] [] (true, n, e, σ) (0, some (pvI r.1), true, n, r.2.1, r.2.2)
  refine go_aload_n (pc' := 1) dL_begins_0 rfl rfl (Nat.le_of_ble_eq_true rfl) ?_
  obtain ⟨v1, k2, h⟩ := bd h
  by_cases c3 : v1.1 = 0
  · rw [if_pos c3] at h
    have k2 := l_C_begin (d + 0) n e σ _ k2
    rw [c3] at k2
    refine go_call (kc := 158) (Mc := mt158) (v := none) (w' := (true, n, e, v1.2)) (pc' := 4) (st' := []) [pvR 10 0 0] [] (Or.inl rfl) dL_begins_1 rfl rm_12_53 mtE158 rfl rfl rfl (Nat.le_of_ble_eq_true rfl) (Or.inr ⟨_, _, 0, rfl, Or.inl rfl⟩) k2 rfl ?_
    refine go_iconst (pc' := 5) dL_begins_4 rfl (r32_c rfl) ?_
    cases h
    exact go_iret dL_begins_5 rfl rfl
  · rw [if_neg c3] at h
    by_cases c4 : v1.1 = 3
    · rw [if_pos c4] at h
      have k2 := l_C_begin (d + 0) n e σ _ k2
      rw [c4] at k2
      refine go_callH (x := 3) (kc := 158) (Mc := mt158) (h := 6) (i := 1) (ln := 1) (w' := (true, n, (e + 1), v1.2)) (pc' := 7) (L' := [some (pvR 10 0 0), none]) [pvR 10 0 0] [] (Or.inl rfl) dL_begins_1 rm_12_53 mtE158 rfl rfl rfl (Nat.le_of_ble_eq_true rfl) (Or.inr ⟨_, _, 0, rfl, Or.inl rfl⟩) (by decide +kernel) (by decide) (by decide) (Or.inr ⟨_, dL_begins_6, rfl, rfl⟩) (Nat.le_of_ble_eq_true rfl) rfl rfl k2 ?_
      refine go_bipush (pc' := 9) dL_begins_7 rfl (r32_c rfl) (by decide) ?_
      cases h
      exact go_iret dL_begins_9 rfl rfl
    · rw [if_neg c4] at h
      cases h

set_option maxRecDepth 10000 in
theorem l_FR_restore (d : Nat) (n e : Nat) (σ : Hp) (r : Hp) (h : f_FR_restore σ = some r) : Ev (d + 1) 162 [pvR 1 0 101] (true, n, e, σ) (0, none, true, n, e, r) := by
  unfold f_FR_restore at h
  refine Ev.of mtE162 rfl rfl rfl rfl ?_
  show Go none (Ev (d + 0)) mt162 0 [some (pvR 1 0 101)] [] (true, n, e, σ) (0, none, true, n, e, r)
  refine go_aload_n (pc' := 1) dX1_restore_0 rfl rfl (Nat.le_of_ble_eq_true rfl) ?_
  refine go_aload_n (pc' := 2) dX1_restore_1 rfl rfl (Nat.le_of_ble_eq_true rfl) ?_
  refine go_getI (pc' := 5) dX1_restore_2 rfl rf_1_42 rfl ?_
  refine go_putI (pc' := 8) dX1_restore_5 rfl rf_1_30 rfl ?_
  refine go_aload_n (pc' := 9) dX1_restore_8 rfl rfl (Nat.le_of_ble_eq_true rfl) ?_
  refine go_getR (k' := 12) (L0 := 50) (P' := 105) (pc' := 12) dX1_restore_9 rfl rf_1_21 rfl rfl (by omega) ?_
  refine go_iconst (pc' := 13) dX1_restore_12 rfl (r32_c rfl) ?_
  refine go_aload_n (pc' := 14) dX1_restore_13 rfl rfl (Nat.le_of_ble_eq_true rfl) ?_
  refine go_getR (k' := 12) (L0 := 50) (P' := 102) (pc' := 17) dX1_restore_14 rfl rf_1_9 rfl rfl (by omega) ?_
  refine go_iconst (pc' := 18) dX1_restore_17 rfl (r32_c rfl) ?_
  refine go_bipush (pc' := 20) dX1_restore_18 rfl (r32_c rfl) (by decide) ?_
  obtain ⟨g1, h⟩ := gd h
  refine go_copy (pc' := 23) dX1_restore_20 rfl rm_1_45 (Nat.le_of_ble_eq_true rfl) g1 ?_
  refine go_aload_n (pc' := 24) dX1_restore_23 rfl rfl (Nat.le_of_ble_eq_true rfl) ?_
  refine go_getR (k' := 12) (L0 := 50) (P' := 106) (pc' := 27) dX1_restore_24 rfl rf_1_24 rfl rfl (by omega) ?_
  refine go_iconst (pc' := 28) dX1_restore_27 rfl (r32_c rfl) ?_
  refine go_aload_n (pc' := 29) dX1_restore_28 rfl rfl (Nat.le_of_ble_eq_true rfl) ?_
  refine go_getR (k' := 12) (L0 := 50) (P' := 103) (pc' := 32) dX1_restore_29 rfl rf_1_15 rfl rfl (by omega) ?_
  refine go_iconst (pc' := 33) dX1_restore_32 rfl (r32_c rfl) ?_
  refine go_bipush (pc' := 35) dX1_restore_33 rfl (r32_c rfl) (by decide) ?_
  obtain ⟨g2, h⟩ := gd h
  refine go_copy (pc' := 38) dX1_restore_35 rfl rm_1_45 (Nat.le_of_ble_eq_true rfl) g2 ?_
  refine go_aload_n (pc' := 39) dX1_restore_38 rfl rfl (Nat.le_of_ble_eq_true rfl) ?_
  refine go_getR (k' := 12) (L0 := 50) (P' := 107) (pc' := 42) dX1_restore_39 rfl rf_1_27 rfl rfl (by omega) ?_
  refine go_iconst (pc' := 43) dX1_restore_42 rfl (r32_c rfl) ?_
  refine go_aload_n (pc' := 44) dX1_restore_43 rfl rfl (Nat.le_of_ble_eq_true rfl) ?_
  refine go_getR (k' := 12) (L0 := 50) (P' := 104) (pc' := 47) dX1_restore_44 rfl rf_1_18 rfl rfl (by omega) ?_
  refine go_iconst (pc' := 48) dX1_restore_47 rfl (r32_c rfl) ?_
  refine go_bipush (pc' := 50) dX1_restore_48 rfl (r32_c rfl) (by decide) ?_
  obtain ⟨g3, h⟩ := gd h
  refine go_copy (pc' := 53) dX1_restore_50 rfl rm_1_45 (Nat.le_of_ble_eq_true rfl) g3 ?_
  cases h
  exact go_vret dX1_restore_53 rfl rfl

set_option maxRecDepth 10000 in
theorem l_C_end (d : Nat) (n e : Nat) (σ : Hp) (x1 : Int) (r : Nat × Int × Hp) (h : f_C_end σ x1 = some r) : Ev (d + 2) 161 [pvR 10 0 0, pvI x1] (true, n, e, σ) (r.1, if r.1 = 0 then some (pvI r.2.1) else none, true, n, e + if r.1 = 0 then 0 else 1, r.2.2) := by
  unfold f_C_end at h
  refine Ev.of mtE161 rfl rfl rfl rfl ?_
  show Go none (Ev (d + 1)) mt161 0 [some (pvR 10 0 0), some (pvI x1)] [] (true, n, e, σ) (r.1, if r.1 = 0 then some (pvI r.2.1) else none, true, n, e + if r.1 = 0 then 0 else 1, r.2.2)
  refine go_aload_n (pc' := 1) dX10_end_0 rfl rfl (Nat.le_of_ble_eq_true rfl) ?_
  refine go_getR (k' := 1) (L0 := 0) (P' := 101) (pc' := 4) dX10_end_1 rfl rf_10_28 rfl rfl (by omega) ?_
  refine go_getZ (pc' := 7) dX10_end_4 rfl rf_10_313 rfl ?_
  obtain ⟨v1, k2, h⟩ := bd h
  by_cases c3 : v1 = 0
  · rw [if_pos c3] at h
    have k2 := l_C_need (d + 0) n e σ (σ 101 2) _ k2
    rw [c3] at k2
    refine go_call (kc := 19) (Mc := mt19) (v := none) (w' := (true, n, e, σ)) (pc' := 10) (st' := []) [pvI (σ 101 2)] [] (Or.inr (Or.inl rfl)) dX10_end_7 rfl rm_10_84 mtE19 rfl rfl rfl (Nat.le_of_ble_eq_true rfl) (Or.inl (by decide)) k2 rfl ?_
    refine go_aload_n (pc' := 11) dX10_end_10 rfl rfl (Nat.le_of_ble_eq_true rfl) ?_
    refine go_getR (k' := 1) (L0 := 0) (P' := 101) (pc' := 14) dX10_end_11 rfl rf_10_28 rfl rfl (by omega) ?_
    refine go_iconst (pc' := 15) dX10_end_14 rfl (r32_c rfl) ?_
    obtain ⟨g4, h⟩ := gd h
    refine go_putZ (pc' := 18) dX10_end_15 rfl rf_10_313 rfl g4 ?_
    refine go_iload_n (pc' := 19) dX10_end_18 rfl rfl ?_
    obtain ⟨j5, k6, h⟩ := bd h
    have k6J : Go none (Ev (d + 1)) mt161 36 [some (pvR 10 0 0), some (pvI x1)] [] (true, n, e, j5) (r.1, if r.1 = 0 then some (pvI r.2.1) else none, true, n, e + if r.1 = 0 then 0 else 1, r.2.2) := by
      refine go_aload_n (pc' := 37) dX10_end_36 rfl rfl (Nat.le_of_ble_eq_true rfl) ?_
      refine go_getR (k' := 1) (L0 := 0) (P' := 101) (pc' := 40) dX10_end_37 rfl rf_10_28 rfl rfl (by omega) ?_
      refine go_getI (pc' := 43) dX10_end_40 rfl rf_10_214 rfl ?_
      cases h
      exact go_iret dX10_end_43 rfl rfl
    clear h
    have h := k6
    refine go_if_ne (t := 36) (pc' := 22) dX10_end_19 rfl rfl (fun c11 => ?_) (fun c11 => ?_)
    · rw [if_pos (show x1 ≠ 0 from c11)] at h
      cases h
      exact k6J
    · rw [if_neg (show ¬ (x1 ≠ 0) from c11)] at h
      refine go_aload_n (pc' := 23) dX10_end_22 rfl rfl (Nat.le_of_ble_eq_true rfl) ?_
      refine go_getR (k' := 1) (L0 := 0) (P' := 101) (pc' := 26) dX10_end_23 rfl rf_10_28 rfl rfl (by omega) ?_
      obtain ⟨v7, k8, h⟩ := bd h
      have k8 := l_FR_restore (d + 0) n e (hset σ 101 2 0) _ k8
      refine go_call (kc := 162) (Mc := mt162) (v := none) (w' := (true, n, e, v7)) (pc' := 29) (st' := []) [pvR 1 0 101] [] (Or.inl rfl) dX10_end_26 rfl rm_10_319 mtE162 rfl rfl rfl (Nat.le_of_ble_eq_true rfl) (Or.inr ⟨_, _, 101, rfl, Or.inl rfl⟩) k8 rfl ?_
      refine go_aload_n (pc' := 30) dX10_end_29 rfl rfl (Nat.le_of_ble_eq_true rfl) ?_
      refine go_getR (k' := 3) (L0 := 0) (P' := 108) (pc' := 33) dX10_end_30 rfl rf_10_35 rfl rfl (by omega) ?_
      obtain ⟨v9, k10, h⟩ := bd h
      have k10 := l_K_dropAll (d + 0) n e v7 _ k10
      refine go_call (kc := 35) (Mc := mt35) (v := none) (w' := (true, n, e, v9)) (pc' := 36) (st' := []) [pvR 3 0 108] [] (Or.inl rfl) dX10_end_33 rfl rm_10_105 mtE35 rfl rfl rfl (Nat.le_of_ble_eq_true rfl) (Or.inr ⟨_, _, 108, rfl, Or.inl rfl⟩) k10 rfl ?_
      cases h
      exact k6J
  · rw [if_neg c3] at h
    obtain ⟨g12, h⟩ := gd h
    cases h
    have k2 := l_C_need (d + 0) n e σ (σ 101 2) _ k2
    simp only [if_neg c3] at k2 ⊢
    exact go_callX (kc := 19) (Mc := mt19) [pvI (σ 101 2)] [] (Or.inr rfl) dX10_end_7 rm_10_84 mtE19 rfl rfl rfl (Nat.le_of_ble_eq_true rfl) (Or.inl (by decide)) rfl c3 g12 k2 rfl

set_option maxRecDepth 10000 in
theorem l_L_ends (d : Nat) (n e : Nat) (σ : Hp) (x2 : Int) (r : Int × Nat × Hp) (h : f_L_ends σ e x2 = some r) : Ev (d + 3) 160 [pvR 10 0 0, pvI x2] (true, n, e, σ) (0, some (pvI r.1), true, n, r.2.1, r.2.2) := by
  unfold f_L_ends at h
  refine Ev.of mtE160 rfl rfl rfl rfl ?_
  show Go none (Ev (d + 2)) mt160 0 [some (pvR 10 0 0), some (pvI x2), none] [] (true, n, e, σ) (0, some (pvI r.1), true, n, r.2.1, r.2.2)
  refine go_aload_n (pc' := 1) dL_ends_0 rfl rfl (Nat.le_of_ble_eq_true rfl) ?_
  refine go_iload_n (pc' := 2) dL_ends_1 rfl rfl ?_
  obtain ⟨v1, k2, h⟩ := bd h
  by_cases c3 : v1.1 = 0
  · rw [if_pos c3] at h
    have k2 := l_C_end (d + 0) n e σ x2 _ k2
    rw [c3] at k2
    refine go_call (kc := 161) (Mc := mt161) (v := some (pvI v1.2.1)) (w' := (true, n, e, v1.2.2)) (pc' := 5) (st' := [pvI v1.2.1]) [pvR 10 0 0, pvI x2] [] (Or.inl rfl) dL_ends_2 rfl rm_12_49 mtE161 rfl rfl rfl (Nat.le_of_ble_eq_true rfl) (Or.inr ⟨_, _, 0, rfl, Or.inl rfl⟩) k2 rfl ?_
    cases h
    exact go_iret dL_ends_5 rfl rfl
  · rw [if_neg c3] at h
    by_cases c4 : v1.1 = 3
    · rw [if_pos c4] at h
      have k2 := l_C_end (d + 0) n e σ x2 _ k2
      rw [c4] at k2
      refine go_callH (x := 3) (kc := 161) (Mc := mt161) (h := 6) (i := 2) (ln := 1) (w' := (true, n, (e + 1), v1.2.2)) (pc' := 7) (L' := [some (pvR 10 0 0), some (pvI x2), none]) [pvR 10 0 0, pvI x2] [] (Or.inl rfl) dL_ends_2 rm_12_49 mtE161 rfl rfl rfl (Nat.le_of_ble_eq_true rfl) (Or.inr ⟨_, _, 0, rfl, Or.inl rfl⟩) (by decide +kernel) (by decide) (by decide) (Or.inr ⟨_, dL_ends_6, rfl, rfl⟩) (Nat.le_of_ble_eq_true rfl) rfl rfl k2 ?_
      refine go_bipush (pc' := 9) dL_ends_7 rfl (r32_c rfl) (by decide) ?_
      cases h
      exact go_iret dL_ends_9 rfl rfl
    · rw [if_neg c4] at h
      cases h

set_option maxRecDepth 10000 in
theorem l_L_act (d : Nat) (n e : Nat) (σ : Hp) (x3 : Int) (x4 : Int) (r : Int × Nat × Nat × Hp) (h : f_L_act σ n e x3 x4 = some r) : Ev (d + 10) 131 [pvR 10 0 0, pvR 12 5 129, pvI x3, pvI x4] (true, n, e, σ) (0, some (pvI r.1), true, r.2.1, r.2.2.1, r.2.2.2) := by
  unfold f_L_act at h
  refine Ev.of mtE131 rfl rfl rfl rfl ?_
  show Go none (Ev (d + 9)) mt131 0 [some (pvR 10 0 0), some (pvR 12 5 129), some (pvI x3), some (pvI x4), none, none, none, none] [] (true, n, e, σ) (0, some (pvI r.1), true, r.2.1, r.2.2.1, r.2.2.2)
  refine go_iload_n (pc' := 1) dL_act_0 rfl rfl ?_
  refine go_iconst (pc' := 2) dL_act_1 rfl (r32_c rfl) ?_
  obtain ⟨v1, k2, h⟩ := bd h
  have k2 := l_L_low (d + 8) n e σ x3 3 _ k2
  refine go_call (kc := 41) (Mc := mt41) (v := some (pvI v1)) (w' := (true, n, e, σ)) (pc' := 5) (st' := [pvI v1]) [pvI x3, pvI 3] [] (Or.inr (Or.inl rfl)) dL_act_2 rfl rm_12_59 mtE41 rfl rfl rfl (Nat.le_of_ble_eq_true rfl) (Or.inl (by decide)) k2 rfl ?_
  refine go_istore (L' := [some (pvR 10 0 0), some (pvR 12 5 129), some (pvI x3), some (pvI x4), some (pvI v1), none, none, none]) (pc' := 7) dL_act_5 rfl (Nat.le_of_ble_eq_true rfl) rfl ?_
  refine go_iload_n (pc' := 8) dL_act_7 rfl rfl ?_
  refine go_iconst (pc' := 9) dL_act_8 rfl (r32_c rfl) ?_
  refine go_ishr (pc' := 10) dL_act_9 rfl ?_
  refine go_aload_n (pc' := 11) dL_act_10 rfl rfl (Nat.le_of_ble_eq_true rfl) ?_
  refine go_iload (pc' := 13) dL_act_11 rfl rfl ?_
  obtain ⟨g3, h⟩ := gd h
  refine go_iald (pc' := 14) dL_act_13 rfl g3 ?_
  refine go_iconst (pc' := 15) dL_act_14 rfl (r32_c rfl) ?_
  obtain ⟨g4, h⟩ := gd h
  refine go_iadd (pc' := 16) dL_act_15 rfl g4 ?_
  obtain ⟨v5, k6, h⟩ := bd h
  have k6 := l_L_low (d + 8) n e σ (ishr x3 2) ((σ 129 v1) + 1) _ k6
  refine go_call (kc := 41) (Mc := mt41) (v := some (pvI v5)) (w' := (true, n, e, σ)) (pc' := 19) (st' := [pvI v5]) [pvI (ishr x3 2), pvI ((σ 129 v1) + 1)] [] (Or.inr (Or.inl rfl)) dL_act_16 rfl rm_12_59 mtE41 rfl rfl rfl (Nat.le_of_ble_eq_true rfl) (Or.inl (by decide)) k6 rfl ?_
  refine go_istore (L' := [some (pvR 10 0 0), some (pvR 12 5 129), some (pvI x3), some (pvI x4), some (pvI v1), some (pvI v5), none, none]) (pc' := 21) dL_act_19 rfl (Nat.le_of_ble_eq_true rfl) rfl ?_
  refine go_iload_n (pc' := 22) dL_act_21 rfl rfl ?_
  by_cases c21 : x4 = 0
  · rw [if_pos c21] at h
    refine go_table (t := 84) dL_act_22 (Or.inr ⟨by omega, by omega, by rw [c21]; rfl⟩) rfl ?_
    refine go_aload_n (pc' := 85) dL_act_84 rfl rfl (Nat.le_of_ble_eq_true rfl) ?_
    refine go_iload (pc' := 87) dL_act_85 rfl rfl ?_
    refine go_iload (pc' := 89) dL_act_87 rfl rfl ?_
    refine go_iload_n (pc' := 90) dL_act_89 rfl rfl ?_
    refine go_bipush (pc' := 92) dL_act_90 rfl (r32_c rfl) (by decide) ?_
    refine go_ishr (pc' := 93) dL_act_92 rfl ?_
    refine go_bipush (pc' := 95) dL_act_93 rfl (r32_c rfl) (by decide) ?_
    obtain ⟨v7, k8, h⟩ := bd h
    have k8 := l_L_low (d + 8) n e σ (ishr x3 6) 12 _ k8
    refine go_call (kc := 41) (Mc := mt41) (v := some (pvI v7)) (w' := (true, n, e, σ)) (pc' := 98) (st' := [pvI v7, pvI v5, pvI v1, pvR 10 0 0]) [pvI (ishr x3 6), pvI 12] [pvI v5, pvI v1, pvR 10 0 0] (Or.inr (Or.inl rfl)) dL_act_95 rfl rm_12_59 mtE41 rfl rfl rfl (Nat.le_of_ble_eq_true rfl) (Or.inl (by decide)) k8 rfl ?_
    refine go_iconst (pc' := 99) dL_act_98 rfl (r32_c rfl) ?_
    obtain ⟨g9, h⟩ := gd h
    refine go_idiv (pc' := 100) dL_act_99 rfl g9 ?_
    refine go_iload_n (pc' := 101) dL_act_100 rfl rfl ?_
    refine go_bipush (pc' := 103) dL_act_101 rfl (r32_c rfl) (by decide) ?_
    refine go_ishr (pc' := 104) dL_act_103 rfl ?_
    refine go_iconst (pc' := 105) dL_act_104 rfl (r32_c rfl) ?_
    obtain ⟨v10, k11, h⟩ := bd h
    have k11 := l_L_low (d + 8) n e σ (ishr x3 9) 2 _ k11
    refine go_call (kc := 41) (Mc := mt41) (v := some (pvI v10)) (w' := (true, n, e, σ)) (pc' := 108) (st' := [pvI v10, pvI (Int.tdiv v7 4), pvI v5, pvI v1, pvR 10 0 0]) [pvI (ishr x3 9), pvI 2] [pvI (Int.tdiv v7 4), pvI v5, pvI v1, pvR 10 0 0] (Or.inr (Or.inl rfl)) dL_act_105 rfl rm_12_59 mtE41 rfl rfl rfl (Nat.le_of_ble_eq_true rfl) (Or.inl (by decide)) k11 rfl ?_
    obtain ⟨g12, h⟩ := gd h
    refine go_isub (pc' := 109) dL_act_108 rfl g12 ?_
    obtain ⟨v13, k14, h⟩ := bd h
    have k14 := l_L_members (d + 1) n e σ v1 v5 ((Int.tdiv v7 4) - v10) _ k14
    refine go_call (kc := 42) (Mc := mt42) (v := some (pvI v13.1)) (w' := (true, n, v13.2.1, v13.2.2)) (pc' := 112) (st' := [pvI v13.1]) [pvR 10 0 0, pvI v1, pvI v5, pvI ((Int.tdiv v7 4) - v10)] [] (Or.inr (Or.inl rfl)) dL_act_109 rfl rm_12_100 mtE42 rfl rfl rfl (Nat.le_of_ble_eq_true rfl) (Or.inl (by decide)) k14 rfl ?_
    refine go_istore (L' := [some (pvR 10 0 0), some (pvR 12 5 129), some (pvI x3), some (pvI x4), some (pvI v1), some (pvI v5), some (pvI v13.1), none]) (pc' := 114) dL_act_112 rfl (Nat.le_of_ble_eq_true rfl) rfl ?_
    refine go_aload_n (pc' := 115) dL_act_114 rfl rfl (Nat.le_of_ble_eq_true rfl) ?_
    refine go_iload (pc' := 117) dL_act_115 rfl rfl ?_
    refine go_dup2 (pc' := 118) dL_act_117 rfl (Nat.ne_of_beq_eq_false rfl) (Nat.ne_of_beq_eq_false rfl) ?_
    obtain ⟨g15, h⟩ := gd h
    refine go_iald (pc' := 119) dL_act_118 rfl g15 ?_
    refine go_iload (pc' := 121) dL_act_119 rfl rfl ?_
    obtain ⟨j16, k17, h⟩ := bd h
    have k17J : Go none (Ev (d + 9)) mt131 129 [some (pvR 10 0 0), some (pvR 12 5 129), some (pvI x3), some (pvI x4), some (pvI v1), some (pvI v5), some (pvI v13.1), none] [pvI j16, pvI (v13.2.2 129 v1), pvI v1, pvR 12 5 129] (true, n, v13.2.1, v13.2.2) (0, some (pvI r.1), true, r.2.1, r.2.2.1, r.2.2.2) := by
      obtain ⟨g18, h⟩ := gd h
      refine go_iadd (pc' := 130) dL_act_129 rfl g18 ?_
      obtain ⟨g19, h⟩ := gd h
      refine go_iast (pc' := 131) dL_act_130 rfl g19 ?_
      refine go_iload (pc' := 133) dL_act_131 rfl rfl ?_
      cases h
      exact go_iret dL_act_133 rfl rfl
    clear h
    have h := k17
    refine go_if_ge (t := 128) (pc' := 124) dL_act_121 rfl rfl (fun c20 => ?_) (fun c20 => ?_)
    · rw [if_pos (show 0 ≤ v13.1 from c20)] at h
      refine go_iconst (pc' := 129) dL_act_128 rfl (r32_c rfl) ?_
      cases h
      exact k17J
    · rw [if_neg (show ¬ (0 ≤ v13.1) from c20)] at h
      refine go_iconst (pc' := 125) dL_act_124 rfl (r32_c rfl) ?_
      refine go_goto (t := 129) dL_act_125 rfl ?_
      cases h
      exact k17J
  · rw [if_neg c21] at h
    by_cases c36 : x4 = 1
    · rw [if_pos c36] at h
      refine go_table (t := 84) dL_act_22 (Or.inr ⟨by omega, by omega, by rw [c36]; rfl⟩) rfl ?_
      refine go_aload_n (pc' := 85) dL_act_84 rfl rfl (Nat.le_of_ble_eq_true rfl) ?_
      refine go_iload (pc' := 87) dL_act_85 rfl rfl ?_
      refine go_iload (pc' := 89) dL_act_87 rfl rfl ?_
      refine go_iload_n (pc' := 90) dL_act_89 rfl rfl ?_
      refine go_bipush (pc' := 92) dL_act_90 rfl (r32_c rfl) (by decide) ?_
      refine go_ishr (pc' := 93) dL_act_92 rfl ?_
      refine go_bipush (pc' := 95) dL_act_93 rfl (r32_c rfl) (by decide) ?_
      obtain ⟨v22, k23, h⟩ := bd h
      have k23 := l_L_low (d + 8) n e σ (ishr x3 6) 12 _ k23
      refine go_call (kc := 41) (Mc := mt41) (v := some (pvI v22)) (w' := (true, n, e, σ)) (pc' := 98) (st' := [pvI v22, pvI v5, pvI v1, pvR 10 0 0]) [pvI (ishr x3 6), pvI 12] [pvI v5, pvI v1, pvR 10 0 0] (Or.inr (Or.inl rfl)) dL_act_95 rfl rm_12_59 mtE41 rfl rfl rfl (Nat.le_of_ble_eq_true rfl) (Or.inl (by decide)) k23 rfl ?_
      refine go_iconst (pc' := 99) dL_act_98 rfl (r32_c rfl) ?_
      obtain ⟨g24, h⟩ := gd h
      refine go_idiv (pc' := 100) dL_act_99 rfl g24 ?_
      refine go_iload_n (pc' := 101) dL_act_100 rfl rfl ?_
      refine go_bipush (pc' := 103) dL_act_101 rfl (r32_c rfl) (by decide) ?_
      refine go_ishr (pc' := 104) dL_act_103 rfl ?_
      refine go_iconst (pc' := 105) dL_act_104 rfl (r32_c rfl) ?_
      obtain ⟨v25, k26, h⟩ := bd h
      have k26 := l_L_low (d + 8) n e σ (ishr x3 9) 2 _ k26
      refine go_call (kc := 41) (Mc := mt41) (v := some (pvI v25)) (w' := (true, n, e, σ)) (pc' := 108) (st' := [pvI v25, pvI (Int.tdiv v22 4), pvI v5, pvI v1, pvR 10 0 0]) [pvI (ishr x3 9), pvI 2] [pvI (Int.tdiv v22 4), pvI v5, pvI v1, pvR 10 0 0] (Or.inr (Or.inl rfl)) dL_act_105 rfl rm_12_59 mtE41 rfl rfl rfl (Nat.le_of_ble_eq_true rfl) (Or.inl (by decide)) k26 rfl ?_
      obtain ⟨g27, h⟩ := gd h
      refine go_isub (pc' := 109) dL_act_108 rfl g27 ?_
      obtain ⟨v28, k29, h⟩ := bd h
      have k29 := l_L_members (d + 1) n e σ v1 v5 ((Int.tdiv v22 4) - v25) _ k29
      refine go_call (kc := 42) (Mc := mt42) (v := some (pvI v28.1)) (w' := (true, n, v28.2.1, v28.2.2)) (pc' := 112) (st' := [pvI v28.1]) [pvR 10 0 0, pvI v1, pvI v5, pvI ((Int.tdiv v22 4) - v25)] [] (Or.inr (Or.inl rfl)) dL_act_109 rfl rm_12_100 mtE42 rfl rfl rfl (Nat.le_of_ble_eq_true rfl) (Or.inl (by decide)) k29 rfl ?_
      refine go_istore (L' := [some (pvR 10 0 0), some (pvR 12 5 129), some (pvI x3), some (pvI x4), some (pvI v1), some (pvI v5), some (pvI v28.1), none]) (pc' := 114) dL_act_112 rfl (Nat.le_of_ble_eq_true rfl) rfl ?_
      refine go_aload_n (pc' := 115) dL_act_114 rfl rfl (Nat.le_of_ble_eq_true rfl) ?_
      refine go_iload (pc' := 117) dL_act_115 rfl rfl ?_
      refine go_dup2 (pc' := 118) dL_act_117 rfl (Nat.ne_of_beq_eq_false rfl) (Nat.ne_of_beq_eq_false rfl) ?_
      obtain ⟨g30, h⟩ := gd h
      refine go_iald (pc' := 119) dL_act_118 rfl g30 ?_
      refine go_iload (pc' := 121) dL_act_119 rfl rfl ?_
      obtain ⟨j31, k32, h⟩ := bd h
      have k32J : Go none (Ev (d + 9)) mt131 129 [some (pvR 10 0 0), some (pvR 12 5 129), some (pvI x3), some (pvI x4), some (pvI v1), some (pvI v5), some (pvI v28.1), none] [pvI j31, pvI (v28.2.2 129 v1), pvI v1, pvR 12 5 129] (true, n, v28.2.1, v28.2.2) (0, some (pvI r.1), true, r.2.1, r.2.2.1, r.2.2.2) := by
        obtain ⟨g33, h⟩ := gd h
        refine go_iadd (pc' := 130) dL_act_129 rfl g33 ?_
        obtain ⟨g34, h⟩ := gd h
        refine go_iast (pc' := 131) dL_act_130 rfl g34 ?_
        refine go_iload (pc' := 133) dL_act_131 rfl rfl ?_
        cases h
        exact go_iret dL_act_133 rfl rfl
      clear h
      have h := k32
      refine go_if_ge (t := 128) (pc' := 124) dL_act_121 rfl rfl (fun c35 => ?_) (fun c35 => ?_)
      · rw [if_pos (show 0 ≤ v28.1 from c35)] at h
        refine go_iconst (pc' := 129) dL_act_128 rfl (r32_c rfl) ?_
        cases h
        exact k32J
      · rw [if_neg (show ¬ (0 ≤ v28.1) from c35)] at h
        refine go_iconst (pc' := 125) dL_act_124 rfl (r32_c rfl) ?_
        refine go_goto (t := 129) dL_act_125 rfl ?_
        cases h
        exact k32J
    · rw [if_neg c36] at h
      by_cases c52 : x4 = 2
      · rw [if_pos c52] at h
        refine go_table (t := 134) dL_act_22 (Or.inr ⟨by omega, by omega, by rw [c52]; rfl⟩) rfl ?_
        refine go_aload_n (pc' := 135) dL_act_134 rfl rfl (Nat.le_of_ble_eq_true rfl) ?_
        refine go_iload (pc' := 137) dL_act_135 rfl rfl ?_
        obtain ⟨g37, h⟩ := gd h
        refine go_iald (pc' := 138) dL_act_137 rfl g37 ?_
        refine go_bipush (pc' := 140) dL_act_138 rfl (r32_c rfl) (by decide) ?_
        obtain ⟨j38, k39, h⟩ := bd h
        have k39J : Go none (Ev (d + 9)) mt131 166 [some (pvR 10 0 0), some (pvR 12 5 129), some (pvI x3), some (pvI x4), some (pvI v1), some (pvI v5), none, none] [pvI j38.1] (true, n, j38.2.2, j38.2.1) (0, some (pvI r.1), true, r.2.1, r.2.2.1, r.2.2.2) := by
          refine go_istore (L' := [some (pvR 10 0 0), some (pvR 12 5 129), some (pvI x3), some (pvI x4), some (pvI v1), some (pvI v5), some (pvI j38.1), none]) (pc' := 168) dL_act_166 rfl (Nat.le_of_ble_eq_true rfl) rfl ?_
          refine go_aload_n (pc' := 169) dL_act_168 rfl rfl (Nat.le_of_ble_eq_true rfl) ?_
          refine go_iload (pc' := 171) dL_act_169 rfl rfl ?_
          refine go_dup2 (pc' := 172) dL_act_171 rfl (Nat.ne_of_beq_eq_false rfl) (Nat.ne_of_beq_eq_false rfl) ?_
          obtain ⟨g45, h⟩ := gd h
          refine go_iald (pc' := 173) dL_act_172 rfl g45 ?_
          refine go_iload (pc' := 175) dL_act_173 rfl rfl ?_
          obtain ⟨j46, k47, h⟩ := bd h
          have k47J : Go none (Ev (d + 9)) mt131 183 [some (pvR 10 0 0), some (pvR 12 5 129), some (pvI x3), some (pvI x4), some (pvI v1), some (pvI v5), some (pvI j38.1), none] [pvI j46, pvI (j38.2.1 129 v1), pvI v1, pvR 12 5 129] (true, n, j38.2.2, j38.2.1) (0, some (pvI r.1), true, r.2.1, r.2.2.1, r.2.2.2) := by
            obtain ⟨g48, h⟩ := gd h
            refine go_iadd (pc' := 184) dL_act_183 rfl g48 ?_
            obtain ⟨g49, h⟩ := gd h
            refine go_iast (pc' := 185) dL_act_184 rfl g49 ?_
            refine go_iload (pc' := 187) dL_act_185 rfl rfl ?_
            cases h
            exact go_iret dL_act_187 rfl rfl
          clear h
          have h := k47
          refine go_if_ge (t := 182) (pc' := 178) dL_act_175 rfl rfl (fun c50 => ?_) (fun c50 => ?_)
          · rw [if_pos (show 0 ≤ j38.1 from c50)] at h
            refine go_iconst (pc' := 183) dL_act_182 rfl (r32_c rfl) ?_
            cases h
            exact k47J
          · rw [if_neg (show ¬ (0 ≤ j38.1) from c50)] at h
            refine go_iconst (pc' := 179) dL_act_178 rfl (r32_c rfl) ?_
            refine go_goto (t := 183) dL_act_179 rfl ?_
            cases h
            exact k47J
        clear h
        have h := k39
        refine go_icmp_le (t := 148) (pc' := 143) dL_act_140 rfl rfl (fun c51 => ?_) (fun c51 => ?_)
        · rw [if_pos (show (σ 129 v1) ≤ 9 from c51)] at h
          refine go_aload_n (pc' := 149) dL_act_148 rfl rfl (Nat.le_of_ble_eq_true rfl) ?_
          refine go_iload (pc' := 151) dL_act_149 rfl rfl ?_
          refine go_iload_n (pc' := 152) dL_act_151 rfl rfl ?_
          refine go_iconst (pc' := 153) dL_act_152 rfl (r32_c rfl) ?_
          refine go_ishr (pc' := 154) dL_act_153 rfl ?_
          refine go_iconst (pc' := 155) dL_act_154 rfl (r32_c rfl) ?_
          refine go_aload_n (pc' := 156) dL_act_155 rfl rfl (Nat.le_of_ble_eq_true rfl) ?_
          refine go_iload (pc' := 158) dL_act_156 rfl rfl ?_
          obtain ⟨g40, h⟩ := gd h
          refine go_iald (pc' := 159) dL_act_158 rfl g40 ?_
          refine go_ishl (pc' := 160) dL_act_159 rfl ?_
          obtain ⟨v41, k42, h⟩ := bd h
          have k42 := l_L_low (d + 8) n e σ (ishr x3 4) (ishl 1 (σ 129 v1)) _ k42
          refine go_call (kc := 41) (Mc := mt41) (v := some (pvI v41)) (w' := (true, n, e, σ)) (pc' := 163) (st' := [pvI v41, pvI v1, pvR 10 0 0]) [pvI (ishr x3 4), pvI (ishl 1 (σ 129 v1))] [pvI v1, pvR 10 0 0] (Or.inr (Or.inl rfl)) dL_act_160 rfl rm_12_59 mtE41 rfl rfl rfl (Nat.le_of_ble_eq_true rfl) (Or.inl (by decide)) k42 rfl ?_
          obtain ⟨v43, k44, h⟩ := bd h
          have k44 := l_L_bridges (d + 1) n e σ v1 v41 _ k44
          refine go_call (kc := 43) (Mc := mt43) (v := some (pvI v43.1)) (w' := (true, n, v43.2.1, v43.2.2)) (pc' := 166) (st' := [pvI v43.1]) [pvR 10 0 0, pvI v1, pvI v41] [] (Or.inr (Or.inl rfl)) dL_act_163 rfl rm_12_104 mtE43 rfl rfl rfl (Nat.le_of_ble_eq_true rfl) (Or.inl (by decide)) k44 rfl ?_
          cases h
          exact k39J
        · rw [if_neg (show ¬ ((σ 129 v1) ≤ 9) from c51)] at h
          refine go_bipush (pc' := 145) dL_act_143 rfl (r32_c rfl) (by decide) ?_
          refine go_goto (t := 166) dL_act_145 rfl ?_
          cases h
          exact k39J
      · rw [if_neg c52] at h
        by_cases c61 : x4 = 3
        · rw [if_pos c61] at h
          refine go_table (t := 188) dL_act_22 (Or.inr ⟨by omega, by omega, by rw [c61]; rfl⟩) rfl ?_
          refine go_aload_n (pc' := 189) dL_act_188 rfl rfl (Nat.le_of_ble_eq_true rfl) ?_
          refine go_iload (pc' := 191) dL_act_189 rfl rfl ?_
          refine go_iload (pc' := 193) dL_act_191 rfl rfl ?_
          refine go_iload_n (pc' := 194) dL_act_193 rfl rfl ?_
          refine go_iconst (pc' := 195) dL_act_194 rfl (r32_c rfl) ?_
          refine go_ishr (pc' := 196) dL_act_195 rfl ?_
          refine go_aload_n (pc' := 197) dL_act_196 rfl rfl (Nat.le_of_ble_eq_true rfl) ?_
          refine go_iload (pc' := 199) dL_act_197 rfl rfl ?_
          obtain ⟨g53, h⟩ := gd h
          refine go_iald (pc' := 200) dL_act_199 rfl g53 ?_
          obtain ⟨v54, k55, h⟩ := bd h
          have k55 := l_L_low (d + 8) n e σ (ishr x3 5) (σ 129 v1) _ k55
          refine go_call (kc := 41) (Mc := mt41) (v := some (pvI v54)) (w' := (true, n, e, σ)) (pc' := 203) (st' := [pvI v54, pvI v5, pvI v1, pvR 10 0 0]) [pvI (ishr x3 5), pvI (σ 129 v1)] [pvI v5, pvI v1, pvR 10 0 0] (Or.inr (Or.inl rfl)) dL_act_200 rfl rm_12_59 mtE41 rfl rfl rfl (Nat.le_of_ble_eq_true rfl) (Or.inl (by decide)) k55 rfl ?_
          refine go_iload_n (pc' := 204) dL_act_203 rfl rfl ?_
          refine go_bipush (pc' := 206) dL_act_204 rfl (r32_c rfl) (by decide) ?_
          refine go_ishr (pc' := 207) dL_act_206 rfl ?_
          refine go_aload_n (pc' := 208) dL_act_207 rfl rfl (Nat.le_of_ble_eq_true rfl) ?_
          refine go_iconst (pc' := 209) dL_act_208 rfl (r32_c rfl) ?_
          obtain ⟨g56, h⟩ := gd h
          refine go_iald (pc' := 210) dL_act_209 rfl g56 ?_
          obtain ⟨v57, k58, h⟩ := bd h
          have k58 := l_L_low (d + 8) n e σ (ishr x3 7) (σ 129 0) _ k58
          refine go_call (kc := 41) (Mc := mt41) (v := some (pvI v57)) (w' := (true, n, e, σ)) (pc' := 213) (st' := [pvI v57, pvI v54, pvI v5, pvI v1, pvR 10 0 0]) [pvI (ishr x3 7), pvI (σ 129 0)] [pvI v54, pvI v5, pvI v1, pvR 10 0 0] (Or.inr (Or.inl rfl)) dL_act_210 rfl rm_12_59 mtE41 rfl rfl rfl (Nat.le_of_ble_eq_true rfl) (Or.inl (by decide)) k58 rfl ?_
          obtain ⟨v59, k60, h⟩ := bd h
          have k60 := l_L_moves (d + 1) n e σ v1 v5 v54 v57 _ k60
          refine go_call (kc := 132) (Mc := mt132) (v := some (pvI v59.1)) (w' := (true, n, v59.2.1, v59.2.2)) (pc' := 216) (st' := [pvI v59.1]) [pvR 10 0 0, pvI v1, pvI v5, pvI v54, pvI v57] [] (Or.inr (Or.inl rfl)) dL_act_213 rfl rm_12_108 mtE132 rfl rfl rfl (Nat.le_of_ble_eq_true rfl) (Or.inl (by decide)) k60 rfl ?_
          cases h
          exact go_iret dL_act_216 rfl rfl
        · rw [if_neg c61] at h
          by_cases c72 : x4 = 4
          · rw [if_pos c72] at h
            refine go_table (t := 217) dL_act_22 (Or.inr ⟨by omega, by omega, by rw [c72]; rfl⟩) rfl ?_
            refine go_aload_n (pc' := 218) dL_act_217 rfl rfl (Nat.le_of_ble_eq_true rfl) ?_
            refine go_iload_n (pc' := 219) dL_act_218 rfl rfl ?_
            refine go_iconst (pc' := 220) dL_act_219 rfl (r32_c rfl) ?_
            obtain ⟨v62, k63, h⟩ := bd h
            have k63 := l_L_low (d + 8) n e σ x3 2 _ k63
            refine go_call (kc := 41) (Mc := mt41) (v := some (pvI v62)) (w' := (true, n, e, σ)) (pc' := 223) (st' := [pvI v62, pvR 10 0 0]) [pvI x3, pvI 2] [pvR 10 0 0] (Or.inr (Or.inl rfl)) dL_act_220 rfl rm_12_59 mtE41 rfl rfl rfl (Nat.le_of_ble_eq_true rfl) (Or.inl (by decide)) k63 rfl ?_
            obtain ⟨j64, k65, h⟩ := bd h
            have k65J : Go none (Ev (d + 9)) mt131 231 [some (pvR 10 0 0), some (pvR 12 5 129), some (pvI x3), some (pvI x4), some (pvI v1), some (pvI v5), none, none] [pvI j64, pvR 10 0 0] (true, n, e, σ) (0, some (pvI r.1), true, r.2.1, r.2.2.1, r.2.2.2) := by
              obtain ⟨v66, k67, h⟩ := bd h
              have k67 := l_C_asNow (d + 7) n e σ j64 _ k67
              refine go_call (kc := 136) (Mc := mt136) (v := some (pvI v66.1)) (w' := (true, n, e, v66.2)) (pc' := 234) (st' := [pvI v66.1]) [pvR 10 0 0, pvI j64] [] (Or.inl rfl) dL_act_231 rfl rm_12_112 mtE136 rfl rfl rfl (Nat.le_of_ble_eq_true rfl) (Or.inr ⟨_, _, 0, rfl, Or.inl rfl⟩) k67 rfl ?_
              obtain ⟨j68, k69, h⟩ := bd h
              have k69J : Go none (Ev (d + 9)) mt131 242 [some (pvR 10 0 0), some (pvR 12 5 129), some (pvI x3), some (pvI x4), some (pvI v1), some (pvI v5), none, none] [pvI j68] (true, n, e, v66.2) (0, some (pvI r.1), true, r.2.1, r.2.2.1, r.2.2.2) := by
                cases h
                exact go_iret dL_act_242 rfl rfl
              clear h
              have h := k69
              refine go_if_eq (t := 241) (pc' := 237) dL_act_234 rfl rfl (fun c70 => ?_) (fun c70 => ?_)
              · rw [if_pos (show v66.1 = 0 from c70)] at h
                refine go_iconst (pc' := 242) dL_act_241 rfl (r32_c rfl) ?_
                cases h
                exact k69J
              · rw [if_neg (show ¬ (v66.1 = 0) from c70)] at h
                refine go_iconst (pc' := 238) dL_act_237 rfl (r32_c rfl) ?_
                refine go_goto (t := 242) dL_act_238 rfl ?_
                cases h
                exact k69J
            clear h
            have h := k65
            refine go_if_ne (t := 230) (pc' := 226) dL_act_223 rfl rfl (fun c71 => ?_) (fun c71 => ?_)
            · rw [if_pos (show v62 ≠ 0 from c71)] at h
              refine go_iconst (pc' := 231) dL_act_230 rfl (r32_c rfl) ?_
              cases h
              exact k65J
            · rw [if_neg (show ¬ (v62 ≠ 0) from c71)] at h
              refine go_iconst (pc' := 227) dL_act_226 rfl (r32_c rfl) ?_
              refine go_goto (t := 231) dL_act_227 rfl ?_
              cases h
              exact k65J
          · rw [if_neg c72] at h
            by_cases c145 : x4 = 5
            · rw [if_pos c145] at h
              refine go_table (t := 243) dL_act_22 (Or.inr ⟨by omega, by omega, by rw [c145]; rfl⟩) rfl ?_
              refine go_iload_n (pc' := 244) dL_act_243 rfl rfl ?_
              refine go_iconst (pc' := 245) dL_act_244 rfl (r32_c rfl) ?_
              refine go_ishr (pc' := 246) dL_act_245 rfl ?_
              refine go_iconst (pc' := 247) dL_act_246 rfl (r32_c rfl) ?_
              obtain ⟨v73, k74, h⟩ := bd h
              have k74 := l_L_low (d + 8) n e σ (ishr x3 3) 3 _ k74
              refine go_call (kc := 41) (Mc := mt41) (v := some (pvI v73)) (w' := (true, n, e, σ)) (pc' := 250) (st' := [pvI v73]) [pvI (ishr x3 3), pvI 3] [] (Or.inr (Or.inl rfl)) dL_act_247 rfl rm_12_59 mtE41 rfl rfl rfl (Nat.le_of_ble_eq_true rfl) (Or.inl (by decide)) k74 rfl ?_
              refine go_if_eq (t := 284) (pc' := 253) dL_act_250 rfl rfl (fun c144 => ?_) (fun c144 => ?_)
              · rw [if_pos (show v73 = 0 from c144)] at h
                refine go_aload_n (pc' := 285) dL_act_284 rfl rfl (Nat.le_of_ble_eq_true rfl) ?_
                refine go_iload_n (pc' := 286) dL_act_285 rfl rfl ?_
                refine go_iconst (pc' := 287) dL_act_286 rfl (r32_c rfl) ?_
                refine go_ishr (pc' := 288) dL_act_287 rfl ?_
                refine go_iconst (pc' := 289) dL_act_288 rfl (r32_c rfl) ?_
                obtain ⟨v75, k76, h⟩ := bd h
                have k76 := l_L_low (d + 8) n e σ (ishr x3 4) 2 _ k76
                refine go_call (kc := 41) (Mc := mt41) (v := some (pvI v75)) (w' := (true, n, e, σ)) (pc' := 292) (st' := [pvI v75, pvR 10 0 0]) [pvI (ishr x3 4), pvI 2] [pvR 10 0 0] (Or.inr (Or.inl rfl)) dL_act_289 rfl rm_12_59 mtE41 rfl rfl rfl (Nat.le_of_ble_eq_true rfl) (Or.inl (by decide)) k76 rfl ?_
                obtain ⟨j77, k78, h⟩ := bd h
                have k78J : Go none (Ev (d + 9)) mt131 300 [some (pvR 10 0 0), some (pvR 12 5 129), some (pvI x3), some (pvI x4), some (pvI v1), some (pvI v5), none, none] [pvI j77, pvR 10 0 0] (true, n, e, σ) (0, some (pvI r.1), true, r.2.1, r.2.2.1, r.2.2.2) := by
                  obtain ⟨v79, k80, h⟩ := bd h
                  have k80 := l_C_totals (d + 7) n e σ j77 _ k80
                  refine go_call (kc := 137) (Mc := mt137) (v := some (pvI v79.1)) (w' := (true, n, e, v79.2)) (pc' := 303) (st' := [pvI v79.1]) [pvR 10 0 0, pvI j77] [] (Or.inl rfl) dL_act_300 rfl rm_12_116 mtE137 rfl rfl rfl (Nat.le_of_ble_eq_true rfl) (Or.inr ⟨_, _, 0, rfl, Or.inl rfl⟩) k80 rfl ?_
                  obtain ⟨j81, k82, h⟩ := bd h
                  have k82J : Go none (Ev (d + 9)) mt131 311 [some (pvR 10 0 0), some (pvR 12 5 129), some (pvI x3), some (pvI x4), some (pvI v1), some (pvI v5), none, none] [pvI j81] (true, n, e, v79.2) (0, some (pvI r.1), true, r.2.1, r.2.2.1, r.2.2.2) := by
                    cases h
                    exact go_iret dL_act_311 rfl rfl
                  clear h
                  have h := k82
                  refine go_if_eq (t := 310) (pc' := 306) dL_act_303 rfl rfl (fun c83 => ?_) (fun c83 => ?_)
                  · rw [if_pos (show v79.1 = 0 from c83)] at h
                    refine go_iconst (pc' := 311) dL_act_310 rfl (r32_c rfl) ?_
                    cases h
                    exact k82J
                  · rw [if_neg (show ¬ (v79.1 = 0) from c83)] at h
                    refine go_iconst (pc' := 307) dL_act_306 rfl (r32_c rfl) ?_
                    refine go_goto (t := 311) dL_act_307 rfl ?_
                    cases h
                    exact k82J
                clear h
                have h := k78
                refine go_if_ne (t := 299) (pc' := 295) dL_act_292 rfl rfl (fun c84 => ?_) (fun c84 => ?_)
                · rw [if_pos (show v75 ≠ 0 from c84)] at h
                  refine go_iconst (pc' := 300) dL_act_299 rfl (r32_c rfl) ?_
                  cases h
                  exact k78J
                · rw [if_neg (show ¬ (v75 ≠ 0) from c84)] at h
                  refine go_iconst (pc' := 296) dL_act_295 rfl (r32_c rfl) ?_
                  refine go_goto (t := 300) dL_act_296 rfl ?_
                  cases h
                  exact k78J
              · rw [if_neg (show ¬ (v73 = 0) from c144)] at h
                refine go_iload (pc' := 255) dL_act_253 rfl rfl ?_
                refine go_if_eq (t := 284) (pc' := 258) dL_act_255 rfl rfl (fun c143 => ?_) (fun c143 => ?_)
                · rw [if_pos (show v1 = 0 from c143)] at h
                  refine go_aload_n (pc' := 285) dL_act_284 rfl rfl (Nat.le_of_ble_eq_true rfl) ?_
                  refine go_iload_n (pc' := 286) dL_act_285 rfl rfl ?_
                  refine go_iconst (pc' := 287) dL_act_286 rfl (r32_c rfl) ?_
                  refine go_ishr (pc' := 288) dL_act_287 rfl ?_
                  refine go_iconst (pc' := 289) dL_act_288 rfl (r32_c rfl) ?_
                  obtain ⟨v85, k86, h⟩ := bd h
                  have k86 := l_L_low (d + 8) n e σ (ishr x3 4) 2 _ k86
                  refine go_call (kc := 41) (Mc := mt41) (v := some (pvI v85)) (w' := (true, n, e, σ)) (pc' := 292) (st' := [pvI v85, pvR 10 0 0]) [pvI (ishr x3 4), pvI 2] [pvR 10 0 0] (Or.inr (Or.inl rfl)) dL_act_289 rfl rm_12_59 mtE41 rfl rfl rfl (Nat.le_of_ble_eq_true rfl) (Or.inl (by decide)) k86 rfl ?_
                  obtain ⟨j87, k88, h⟩ := bd h
                  have k88J : Go none (Ev (d + 9)) mt131 300 [some (pvR 10 0 0), some (pvR 12 5 129), some (pvI x3), some (pvI x4), some (pvI v1), some (pvI v5), none, none] [pvI j87, pvR 10 0 0] (true, n, e, σ) (0, some (pvI r.1), true, r.2.1, r.2.2.1, r.2.2.2) := by
                    obtain ⟨v89, k90, h⟩ := bd h
                    have k90 := l_C_totals (d + 7) n e σ j87 _ k90
                    refine go_call (kc := 137) (Mc := mt137) (v := some (pvI v89.1)) (w' := (true, n, e, v89.2)) (pc' := 303) (st' := [pvI v89.1]) [pvR 10 0 0, pvI j87] [] (Or.inl rfl) dL_act_300 rfl rm_12_116 mtE137 rfl rfl rfl (Nat.le_of_ble_eq_true rfl) (Or.inr ⟨_, _, 0, rfl, Or.inl rfl⟩) k90 rfl ?_
                    obtain ⟨j91, k92, h⟩ := bd h
                    have k92J : Go none (Ev (d + 9)) mt131 311 [some (pvR 10 0 0), some (pvR 12 5 129), some (pvI x3), some (pvI x4), some (pvI v1), some (pvI v5), none, none] [pvI j91] (true, n, e, v89.2) (0, some (pvI r.1), true, r.2.1, r.2.2.1, r.2.2.2) := by
                      cases h
                      exact go_iret dL_act_311 rfl rfl
                    clear h
                    have h := k92
                    refine go_if_eq (t := 310) (pc' := 306) dL_act_303 rfl rfl (fun c93 => ?_) (fun c93 => ?_)
                    · rw [if_pos (show v89.1 = 0 from c93)] at h
                      refine go_iconst (pc' := 311) dL_act_310 rfl (r32_c rfl) ?_
                      cases h
                      exact k92J
                    · rw [if_neg (show ¬ (v89.1 = 0) from c93)] at h
                      refine go_iconst (pc' := 307) dL_act_306 rfl (r32_c rfl) ?_
                      refine go_goto (t := 311) dL_act_307 rfl ?_
                      cases h
                      exact k92J
                  clear h
                  have h := k88
                  refine go_if_ne (t := 299) (pc' := 295) dL_act_292 rfl rfl (fun c94 => ?_) (fun c94 => ?_)
                  · rw [if_pos (show v85 ≠ 0 from c94)] at h
                    refine go_iconst (pc' := 300) dL_act_299 rfl (r32_c rfl) ?_
                    cases h
                    exact k88J
                  · rw [if_neg (show ¬ (v85 ≠ 0) from c94)] at h
                    refine go_iconst (pc' := 296) dL_act_295 rfl (r32_c rfl) ?_
                    refine go_goto (t := 300) dL_act_296 rfl ?_
                    cases h
                    exact k88J
                · rw [if_neg (show ¬ (v1 = 0) from c143)] at h
                  refine go_iload (pc' := 260) dL_act_258 rfl rfl ?_
                  refine go_if_eq (t := 284) (pc' := 263) dL_act_260 rfl rfl (fun c142 => ?_) (fun c142 => ?_)
                  · rw [if_pos (show v5 = 0 from c142)] at h
                    refine go_aload_n (pc' := 285) dL_act_284 rfl rfl (Nat.le_of_ble_eq_true rfl) ?_
                    refine go_iload_n (pc' := 286) dL_act_285 rfl rfl ?_
                    refine go_iconst (pc' := 287) dL_act_286 rfl (r32_c rfl) ?_
                    refine go_ishr (pc' := 288) dL_act_287 rfl ?_
                    refine go_iconst (pc' := 289) dL_act_288 rfl (r32_c rfl) ?_
                    obtain ⟨v95, k96, h⟩ := bd h
                    have k96 := l_L_low (d + 8) n e σ (ishr x3 4) 2 _ k96
                    refine go_call (kc := 41) (Mc := mt41) (v := some (pvI v95)) (w' := (true, n, e, σ)) (pc' := 292) (st' := [pvI v95, pvR 10 0 0]) [pvI (ishr x3 4), pvI 2] [pvR 10 0 0] (Or.inr (Or.inl rfl)) dL_act_289 rfl rm_12_59 mtE41 rfl rfl rfl (Nat.le_of_ble_eq_true rfl) (Or.inl (by decide)) k96 rfl ?_
                    obtain ⟨j97, k98, h⟩ := bd h
                    have k98J : Go none (Ev (d + 9)) mt131 300 [some (pvR 10 0 0), some (pvR 12 5 129), some (pvI x3), some (pvI x4), some (pvI v1), some (pvI v5), none, none] [pvI j97, pvR 10 0 0] (true, n, e, σ) (0, some (pvI r.1), true, r.2.1, r.2.2.1, r.2.2.2) := by
                      obtain ⟨v99, k100, h⟩ := bd h
                      have k100 := l_C_totals (d + 7) n e σ j97 _ k100
                      refine go_call (kc := 137) (Mc := mt137) (v := some (pvI v99.1)) (w' := (true, n, e, v99.2)) (pc' := 303) (st' := [pvI v99.1]) [pvR 10 0 0, pvI j97] [] (Or.inl rfl) dL_act_300 rfl rm_12_116 mtE137 rfl rfl rfl (Nat.le_of_ble_eq_true rfl) (Or.inr ⟨_, _, 0, rfl, Or.inl rfl⟩) k100 rfl ?_
                      obtain ⟨j101, k102, h⟩ := bd h
                      have k102J : Go none (Ev (d + 9)) mt131 311 [some (pvR 10 0 0), some (pvR 12 5 129), some (pvI x3), some (pvI x4), some (pvI v1), some (pvI v5), none, none] [pvI j101] (true, n, e, v99.2) (0, some (pvI r.1), true, r.2.1, r.2.2.1, r.2.2.2) := by
                        cases h
                        exact go_iret dL_act_311 rfl rfl
                      clear h
                      have h := k102
                      refine go_if_eq (t := 310) (pc' := 306) dL_act_303 rfl rfl (fun c103 => ?_) (fun c103 => ?_)
                      · rw [if_pos (show v99.1 = 0 from c103)] at h
                        refine go_iconst (pc' := 311) dL_act_310 rfl (r32_c rfl) ?_
                        cases h
                        exact k102J
                      · rw [if_neg (show ¬ (v99.1 = 0) from c103)] at h
                        refine go_iconst (pc' := 307) dL_act_306 rfl (r32_c rfl) ?_
                        refine go_goto (t := 311) dL_act_307 rfl ?_
                        cases h
                        exact k102J
                    clear h
                    have h := k98
                    refine go_if_ne (t := 299) (pc' := 295) dL_act_292 rfl rfl (fun c104 => ?_) (fun c104 => ?_)
                    · rw [if_pos (show v95 ≠ 0 from c104)] at h
                      refine go_iconst (pc' := 300) dL_act_299 rfl (r32_c rfl) ?_
                      cases h
                      exact k98J
                    · rw [if_neg (show ¬ (v95 ≠ 0) from c104)] at h
                      refine go_iconst (pc' := 296) dL_act_295 rfl (r32_c rfl) ?_
                      refine go_goto (t := 300) dL_act_296 rfl ?_
                      cases h
                      exact k98J
                  · rw [if_neg (show ¬ (v5 = 0) from c142)] at h
                    refine go_iload (pc' := 265) dL_act_263 rfl rfl ?_
                    refine go_aload_n (pc' := 266) dL_act_265 rfl rfl (Nat.le_of_ble_eq_true rfl) ?_
                    refine go_iload (pc' := 268) dL_act_266 rfl rfl ?_
                    obtain ⟨g105, h⟩ := gd h
                    refine go_iald (pc' := 269) dL_act_268 rfl g105 ?_
                    refine go_icmp_eq (t := 284) (pc' := 272) dL_act_269 rfl rfl (fun c141 => ?_) (fun c141 => ?_)
                    · rw [if_pos (show v5 = (σ 129 v1) from c141)] at h
                      refine go_aload_n (pc' := 285) dL_act_284 rfl rfl (Nat.le_of_ble_eq_true rfl) ?_
                      refine go_iload_n (pc' := 286) dL_act_285 rfl rfl ?_
                      refine go_iconst (pc' := 287) dL_act_286 rfl (r32_c rfl) ?_
                      refine go_ishr (pc' := 288) dL_act_287 rfl ?_
                      refine go_iconst (pc' := 289) dL_act_288 rfl (r32_c rfl) ?_
                      obtain ⟨v106, k107, h⟩ := bd h
                      have k107 := l_L_low (d + 8) n e σ (ishr x3 4) 2 _ k107
                      refine go_call (kc := 41) (Mc := mt41) (v := some (pvI v106)) (w' := (true, n, e, σ)) (pc' := 292) (st' := [pvI v106, pvR 10 0 0]) [pvI (ishr x3 4), pvI 2] [pvR 10 0 0] (Or.inr (Or.inl rfl)) dL_act_289 rfl rm_12_59 mtE41 rfl rfl rfl (Nat.le_of_ble_eq_true rfl) (Or.inl (by decide)) k107 rfl ?_
                      obtain ⟨j108, k109, h⟩ := bd h
                      have k109J : Go none (Ev (d + 9)) mt131 300 [some (pvR 10 0 0), some (pvR 12 5 129), some (pvI x3), some (pvI x4), some (pvI v1), some (pvI v5), none, none] [pvI j108, pvR 10 0 0] (true, n, e, σ) (0, some (pvI r.1), true, r.2.1, r.2.2.1, r.2.2.2) := by
                        obtain ⟨v110, k111, h⟩ := bd h
                        have k111 := l_C_totals (d + 7) n e σ j108 _ k111
                        refine go_call (kc := 137) (Mc := mt137) (v := some (pvI v110.1)) (w' := (true, n, e, v110.2)) (pc' := 303) (st' := [pvI v110.1]) [pvR 10 0 0, pvI j108] [] (Or.inl rfl) dL_act_300 rfl rm_12_116 mtE137 rfl rfl rfl (Nat.le_of_ble_eq_true rfl) (Or.inr ⟨_, _, 0, rfl, Or.inl rfl⟩) k111 rfl ?_
                        obtain ⟨j112, k113, h⟩ := bd h
                        have k113J : Go none (Ev (d + 9)) mt131 311 [some (pvR 10 0 0), some (pvR 12 5 129), some (pvI x3), some (pvI x4), some (pvI v1), some (pvI v5), none, none] [pvI j112] (true, n, e, v110.2) (0, some (pvI r.1), true, r.2.1, r.2.2.1, r.2.2.2) := by
                          cases h
                          exact go_iret dL_act_311 rfl rfl
                        clear h
                        have h := k113
                        refine go_if_eq (t := 310) (pc' := 306) dL_act_303 rfl rfl (fun c114 => ?_) (fun c114 => ?_)
                        · rw [if_pos (show v110.1 = 0 from c114)] at h
                          refine go_iconst (pc' := 311) dL_act_310 rfl (r32_c rfl) ?_
                          cases h
                          exact k113J
                        · rw [if_neg (show ¬ (v110.1 = 0) from c114)] at h
                          refine go_iconst (pc' := 307) dL_act_306 rfl (r32_c rfl) ?_
                          refine go_goto (t := 311) dL_act_307 rfl ?_
                          cases h
                          exact k113J
                      clear h
                      have h := k109
                      refine go_if_ne (t := 299) (pc' := 295) dL_act_292 rfl rfl (fun c115 => ?_) (fun c115 => ?_)
                      · rw [if_pos (show v106 ≠ 0 from c115)] at h
                        refine go_iconst (pc' := 300) dL_act_299 rfl (r32_c rfl) ?_
                        cases h
                        exact k109J
                      · rw [if_neg (show ¬ (v106 ≠ 0) from c115)] at h
                        refine go_iconst (pc' := 296) dL_act_295 rfl (r32_c rfl) ?_
                        refine go_goto (t := 300) dL_act_296 rfl ?_
                        cases h
                        exact k109J
                    · rw [if_neg (show ¬ (v5 = (σ 129 v1)) from c141)] at h
                      refine go_aload_n (pc' := 273) dL_act_272 rfl rfl (Nat.le_of_ble_eq_true rfl) ?_
                      refine go_iload (pc' := 275) dL_act_273 rfl rfl ?_
                      refine go_iload (pc' := 277) dL_act_275 rfl rfl ?_
                      refine go_iconst (pc' := 278) dL_act_277 rfl (r32_c rfl) ?_
                      obtain ⟨v116, k117, h⟩ := bd h
                      obtain ⟨g118, h⟩ := gd h
                      have k117 := l_C_memberAt (d + 6) n e σ v1 v5 0 _ k117
                      rw [g118] at k117
                      refine go_call (kc := 115) (Mc := mt115) (v := some (pvI v116.2)) (w' := (true, n, e, σ)) (pc' := 281) (st' := [pvI v116.2]) [pvR 10 0 0, pvI v1, pvI v5, pvI 0] [] (Or.inl rfl) dL_act_278 rfl rm_12_56 mtE115 rfl rfl rfl (Nat.le_of_ble_eq_true rfl) (Or.inr ⟨_, _, 0, rfl, Or.inl rfl⟩) k117 rfl ?_
                      refine go_if_eq (t := 312) (pc' := 284) dL_act_281 rfl rfl (fun c140 => ?_) (fun c140 => ?_)
                      · rw [if_pos (show v116.2 = 0 from c140)] at h
                        refine go_aload_n (pc' := 313) dL_act_312 rfl rfl (Nat.le_of_ble_eq_true rfl) ?_
                        refine go_iload (pc' := 315) dL_act_313 rfl rfl ?_
                        refine go_iload (pc' := 317) dL_act_315 rfl rfl ?_
                        refine go_iload_n (pc' := 318) dL_act_317 rfl rfl ?_
                        refine go_iconst (pc' := 319) dL_act_318 rfl (r32_c rfl) ?_
                        refine go_ishr (pc' := 320) dL_act_319 rfl ?_
                        refine go_iconst (pc' := 321) dL_act_320 rfl (r32_c rfl) ?_
                        obtain ⟨v119, k120, h⟩ := bd h
                        have k120 := l_L_low (d + 8) n e σ (ishr x3 5) 2 _ k120
                        refine go_call (kc := 41) (Mc := mt41) (v := some (pvI v119)) (w' := (true, n, e, σ)) (pc' := 324) (st' := [pvI v119, pvI v5, pvI v1, pvR 10 0 0]) [pvI (ishr x3 5), pvI 2] [pvI v5, pvI v1, pvR 10 0 0] (Or.inr (Or.inl rfl)) dL_act_321 rfl rm_12_59 mtE41 rfl rfl rfl (Nat.le_of_ble_eq_true rfl) (Or.inl (by decide)) k120 rfl ?_
                        obtain ⟨j121, k122, h⟩ := bd h
                        have k122J : Go none (Ev (d + 9)) mt131 332 [some (pvR 10 0 0), some (pvR 12 5 129), some (pvI x3), some (pvI x4), some (pvI v1), some (pvI v5), none, none] [pvI j121, pvI v5, pvI v1, pvR 10 0 0] (true, n, e, σ) (0, some (pvI r.1), true, r.2.1, r.2.2.1, r.2.2.2) := by
                          obtain ⟨v123, k124, h⟩ := bd h
                          obtain ⟨g125, h⟩ := gd h
                          have k124 := l_C_hide (d + 4) n e σ v1 v5 j121 _ k124
                          rw [g125] at k124
                          refine go_call (kc := 138) (Mc := mt138) (v := some (pvI v123.2.1)) (w' := (true, n, e, v123.2.2)) (pc' := 335) (st' := [pvI v123.2.1]) [pvR 10 0 0, pvI v1, pvI v5, pvI j121] [] (Or.inl rfl) dL_act_332 rfl rm_12_119 mtE138 rfl rfl rfl (Nat.le_of_ble_eq_true rfl) (Or.inr ⟨_, _, 0, rfl, Or.inl rfl⟩) k124 rfl ?_
                          obtain ⟨j126, k127, h⟩ := bd h
                          have k127J : Go none (Ev (d + 9)) mt131 343 [some (pvR 10 0 0), some (pvR 12 5 129), some (pvI x3), some (pvI x4), some (pvI v1), some (pvI v5), none, none] [pvI j126] (true, n, e, v123.2.2) (0, some (pvI r.1), true, r.2.1, r.2.2.1, r.2.2.2) := by
                            cases h
                            exact go_iret dL_act_343 rfl rfl
                          clear h
                          have h := k127
                          refine go_if_eq (t := 342) (pc' := 338) dL_act_335 rfl rfl (fun c128 => ?_) (fun c128 => ?_)
                          · rw [if_pos (show v123.2.1 = 0 from c128)] at h
                            refine go_iconst (pc' := 343) dL_act_342 rfl (r32_c rfl) ?_
                            cases h
                            exact k127J
                          · rw [if_neg (show ¬ (v123.2.1 = 0) from c128)] at h
                            refine go_iconst (pc' := 339) dL_act_338 rfl (r32_c rfl) ?_
                            refine go_goto (t := 343) dL_act_339 rfl ?_
                            cases h
                            exact k127J
                        clear h
                        have h := k122
                        refine go_if_ne (t := 331) (pc' := 327) dL_act_324 rfl rfl (fun c129 => ?_) (fun c129 => ?_)
                        · rw [if_pos (show v119 ≠ 0 from c129)] at h
                          refine go_iconst (pc' := 332) dL_act_331 rfl (r32_c rfl) ?_
                          cases h
                          exact k122J
                        · rw [if_neg (show ¬ (v119 ≠ 0) from c129)] at h
                          refine go_iconst (pc' := 328) dL_act_327 rfl (r32_c rfl) ?_
                          refine go_goto (t := 332) dL_act_328 rfl ?_
                          cases h
                          exact k122J
                      · rw [if_neg (show ¬ (v116.2 = 0) from c140)] at h
                        refine go_aload_n (pc' := 285) dL_act_284 rfl rfl (Nat.le_of_ble_eq_true rfl) ?_
                        refine go_iload_n (pc' := 286) dL_act_285 rfl rfl ?_
                        refine go_iconst (pc' := 287) dL_act_286 rfl (r32_c rfl) ?_
                        refine go_ishr (pc' := 288) dL_act_287 rfl ?_
                        refine go_iconst (pc' := 289) dL_act_288 rfl (r32_c rfl) ?_
                        obtain ⟨v130, k131, h⟩ := bd h
                        have k131 := l_L_low (d + 8) n e σ (ishr x3 4) 2 _ k131
                        refine go_call (kc := 41) (Mc := mt41) (v := some (pvI v130)) (w' := (true, n, e, σ)) (pc' := 292) (st' := [pvI v130, pvR 10 0 0]) [pvI (ishr x3 4), pvI 2] [pvR 10 0 0] (Or.inr (Or.inl rfl)) dL_act_289 rfl rm_12_59 mtE41 rfl rfl rfl (Nat.le_of_ble_eq_true rfl) (Or.inl (by decide)) k131 rfl ?_
                        obtain ⟨j132, k133, h⟩ := bd h
                        have k133J : Go none (Ev (d + 9)) mt131 300 [some (pvR 10 0 0), some (pvR 12 5 129), some (pvI x3), some (pvI x4), some (pvI v1), some (pvI v5), none, none] [pvI j132, pvR 10 0 0] (true, n, e, σ) (0, some (pvI r.1), true, r.2.1, r.2.2.1, r.2.2.2) := by
                          obtain ⟨v134, k135, h⟩ := bd h
                          have k135 := l_C_totals (d + 7) n e σ j132 _ k135
                          refine go_call (kc := 137) (Mc := mt137) (v := some (pvI v134.1)) (w' := (true, n, e, v134.2)) (pc' := 303) (st' := [pvI v134.1]) [pvR 10 0 0, pvI j132] [] (Or.inl rfl) dL_act_300 rfl rm_12_116 mtE137 rfl rfl rfl (Nat.le_of_ble_eq_true rfl) (Or.inr ⟨_, _, 0, rfl, Or.inl rfl⟩) k135 rfl ?_
                          obtain ⟨j136, k137, h⟩ := bd h
                          have k137J : Go none (Ev (d + 9)) mt131 311 [some (pvR 10 0 0), some (pvR 12 5 129), some (pvI x3), some (pvI x4), some (pvI v1), some (pvI v5), none, none] [pvI j136] (true, n, e, v134.2) (0, some (pvI r.1), true, r.2.1, r.2.2.1, r.2.2.2) := by
                            cases h
                            exact go_iret dL_act_311 rfl rfl
                          clear h
                          have h := k137
                          refine go_if_eq (t := 310) (pc' := 306) dL_act_303 rfl rfl (fun c138 => ?_) (fun c138 => ?_)
                          · rw [if_pos (show v134.1 = 0 from c138)] at h
                            refine go_iconst (pc' := 311) dL_act_310 rfl (r32_c rfl) ?_
                            cases h
                            exact k137J
                          · rw [if_neg (show ¬ (v134.1 = 0) from c138)] at h
                            refine go_iconst (pc' := 307) dL_act_306 rfl (r32_c rfl) ?_
                            refine go_goto (t := 311) dL_act_307 rfl ?_
                            cases h
                            exact k137J
                        clear h
                        have h := k133
                        refine go_if_ne (t := 299) (pc' := 295) dL_act_292 rfl rfl (fun c139 => ?_) (fun c139 => ?_)
                        · rw [if_pos (show v130 ≠ 0 from c139)] at h
                          refine go_iconst (pc' := 300) dL_act_299 rfl (r32_c rfl) ?_
                          cases h
                          exact k133J
                        · rw [if_neg (show ¬ (v130 ≠ 0) from c139)] at h
                          refine go_iconst (pc' := 296) dL_act_295 rfl (r32_c rfl) ?_
                          refine go_goto (t := 300) dL_act_296 rfl ?_
                          cases h
                          exact k133J
            · rw [if_neg c145] at h
              by_cases c187 : x4 = 6
              · rw [if_pos c187] at h
                refine go_table (t := 344) dL_act_22 (Or.inr ⟨by omega, by omega, by rw [c187]; rfl⟩) rfl ?_
                refine go_iload_n (pc' := 345) dL_act_344 rfl rfl ?_
                refine go_iconst (pc' := 346) dL_act_345 rfl (r32_c rfl) ?_
                obtain ⟨v146, k147, h⟩ := bd h
                have k147 := l_L_low (d + 8) n e σ x3 3 _ k147
                refine go_call (kc := 41) (Mc := mt41) (v := some (pvI v146)) (w' := (true, n, e, σ)) (pc' := 349) (st' := [pvI v146]) [pvI x3, pvI 3] [] (Or.inr (Or.inl rfl)) dL_act_346 rfl rm_12_59 mtE41 rfl rfl rfl (Nat.le_of_ble_eq_true rfl) (Or.inl (by decide)) k147 rfl ?_
                refine go_istore (L' := [some (pvR 10 0 0), some (pvR 12 5 129), some (pvI x3), some (pvI x4), some (pvI v1), some (pvI v5), some (pvI v146), none]) (pc' := 351) dL_act_349 rfl (Nat.le_of_ble_eq_true rfl) rfl ?_
                refine go_aload_n (pc' := 352) dL_act_351 rfl rfl (Nat.le_of_ble_eq_true rfl) ?_
                refine go_iload (pc' := 354) dL_act_352 rfl rfl ?_
                refine go_iload_n (pc' := 355) dL_act_354 rfl rfl ?_
                refine go_iconst (pc' := 356) dL_act_355 rfl (r32_c rfl) ?_
                refine go_ishr (pc' := 357) dL_act_356 rfl ?_
                refine go_iload (pc' := 359) dL_act_357 rfl rfl ?_
                obtain ⟨j148, k149, h⟩ := bd h
                have k149J : Go none (Ev (d + 9)) mt131 370 [some (pvR 10 0 0), some (pvR 12 5 129), some (pvI x3), some (pvI x4), some (pvI v1), some (pvI v5), some (pvI v146), none] [pvI j148, pvI (ishr x3 2), pvI v146, pvR 10 0 0] (true, n, e, σ) (0, some (pvI r.1), true, r.2.1, r.2.2.1, r.2.2.2) := by
                  obtain ⟨v150, k151, h⟩ := bd h
                  have k151 := l_L_low (d + 8) n e σ (ishr x3 2) j148 _ k151
                  refine go_call (kc := 41) (Mc := mt41) (v := some (pvI v150)) (w' := (true, n, e, σ)) (pc' := 373) (st' := [pvI v150, pvI v146, pvR 10 0 0]) [pvI (ishr x3 2), pvI j148] [pvI v146, pvR 10 0 0] (Or.inr (Or.inl rfl)) dL_act_370 rfl rm_12_59 mtE41 rfl rfl rfl (Nat.le_of_ble_eq_true rfl) (Or.inl (by decide)) k151 rfl ?_
                  refine go_iload_n (pc' := 374) dL_act_373 rfl rfl ?_
                  refine go_iconst (pc' := 375) dL_act_374 rfl (r32_c rfl) ?_
                  refine go_ishr (pc' := 376) dL_act_375 rfl ?_
                  refine go_iconst (pc' := 377) dL_act_376 rfl (r32_c rfl) ?_
                  obtain ⟨v152, k153, h⟩ := bd h
                  have k153 := l_L_low (d + 8) n e σ (ishr x3 5) 3 _ k153
                  refine go_call (kc := 41) (Mc := mt41) (v := some (pvI v152)) (w' := (true, n, e, σ)) (pc' := 380) (st' := [pvI v152, pvI v150, pvI v146, pvR 10 0 0]) [pvI (ishr x3 5), pvI 3] [pvI v150, pvI v146, pvR 10 0 0] (Or.inr (Or.inl rfl)) dL_act_377 rfl rm_12_59 mtE41 rfl rfl rfl (Nat.le_of_ble_eq_true rfl) (Or.inl (by decide)) k153 rfl ?_
                  obtain ⟨v154, k155, h⟩ := bd h
                  have k155 := l_L_words (d + 6) n e σ v146 v150 v152 _ k155
                  refine go_call (kc := 48) (Mc := mt48) (v := some (pvI v154.1)) (w' := (true, n, v154.2.1, v154.2.2)) (pc' := 383) (st' := [pvI v154.1]) [pvR 10 0 0, pvI v146, pvI v150, pvI v152] [] (Or.inr (Or.inl rfl)) dL_act_380 rfl rm_12_123 mtE48 rfl rfl rfl (Nat.le_of_ble_eq_true rfl) (Or.inl (by decide)) k155 rfl ?_
                  refine go_pop (pc' := 384) dL_act_383 rfl (Nat.ne_of_beq_eq_false rfl) ?_
                  refine go_iload_n (pc' := 385) dL_act_384 rfl rfl ?_
                  refine go_bipush (pc' := 387) dL_act_385 rfl (r32_c rfl) (by decide) ?_
                  refine go_ishr (pc' := 388) dL_act_387 rfl ?_
                  refine go_iconst (pc' := 389) dL_act_388 rfl (r32_c rfl) ?_
                  obtain ⟨v156, k157, h⟩ := bd h
                  have k157 := l_L_low (d + 8) n v154.2.1 v154.2.2 (ishr x3 7) 3 _ k157
                  refine go_call (kc := 41) (Mc := mt41) (v := some (pvI v156)) (w' := (true, n, v154.2.1, v154.2.2)) (pc' := 392) (st' := [pvI v156]) [pvI (ishr x3 7), pvI 3] [] (Or.inr (Or.inl rfl)) dL_act_389 rfl rm_12_59 mtE41 rfl rfl rfl (Nat.le_of_ble_eq_true rfl) (Or.inl (by decide)) k157 rfl ?_
                  obtain ⟨j158, k159, h⟩ := bd h
                  have k159J : Go none (Ev (d + 9)) mt131 433 [some (pvR 10 0 0), some (pvR 12 5 129), some (pvI x3), some (pvI x4), some (pvI v1), some (pvI v5), some (pvI v146), none] [] (true, n, j158.2, j158.1) (0, some (pvI r.1), true, r.2.1, r.2.2.1, r.2.2.2) := by
                    refine go_aload_n (pc' := 434) dL_act_433 rfl rfl (Nat.le_of_ble_eq_true rfl) ?_
                    refine go_iload (pc' := 436) dL_act_434 rfl rfl ?_
                    obtain ⟨g171, h⟩ := gd h
                    refine go_iald (pc' := 437) dL_act_436 rfl g171 ?_
                    refine go_bipush (pc' := 439) dL_act_437 rfl (r32_c rfl) (by decide) ?_
                    obtain ⟨j172, k173, h⟩ := bd h
                    have k173J : Go none (Ev (d + 9)) mt131 462 [some (pvR 10 0 0), some (pvR 12 5 129), some (pvI x3), some (pvI x4), some (pvI v1), some (pvI v5), some (pvI v146), none] [pvI j172.1] (true, j172.2.2.1, j172.2.2.2, j172.2.1) (0, some (pvI r.1), true, r.2.1, r.2.2.1, r.2.2.2) := by
                      refine go_istore (L' := [some (pvR 10 0 0), some (pvR 12 5 129), some (pvI x3), some (pvI x4), some (pvI v1), some (pvI v5), some (pvI v146), some (pvI j172.1)]) (pc' := 464) dL_act_462 rfl (Nat.le_of_ble_eq_true rfl) rfl ?_
                      refine go_aload_n (pc' := 465) dL_act_464 rfl rfl (Nat.le_of_ble_eq_true rfl) ?_
                      refine go_iload (pc' := 467) dL_act_465 rfl rfl ?_
                      refine go_dup2 (pc' := 468) dL_act_467 rfl (Nat.ne_of_beq_eq_false rfl) (Nat.ne_of_beq_eq_false rfl) ?_
                      obtain ⟨g178, h⟩ := gd h
                      refine go_iald (pc' := 469) dL_act_468 rfl g178 ?_
                      refine go_iload (pc' := 471) dL_act_469 rfl rfl ?_
                      obtain ⟨j179, k180, h⟩ := bd h
                      have k180J : Go none (Ev (d + 9)) mt131 479 [some (pvR 10 0 0), some (pvR 12 5 129), some (pvI x3), some (pvI x4), some (pvI v1), some (pvI v5), some (pvI v146), some (pvI j172.1)] [pvI j179, pvI (j172.2.1 129 v1), pvI v1, pvR 12 5 129] (true, j172.2.2.1, j172.2.2.2, j172.2.1) (0, some (pvI r.1), true, r.2.1, r.2.2.1, r.2.2.2) := by
                        obtain ⟨g181, h⟩ := gd h
                        refine go_iadd (pc' := 480) dL_act_479 rfl g181 ?_
                        obtain ⟨g182, h⟩ := gd h
                        refine go_iast (pc' := 481) dL_act_480 rfl g182 ?_
                        refine go_bipush (pc' := 483) dL_act_481 rfl (r32_c rfl) (by decide) ?_
                        cases h
                        exact go_iret dL_act_483 rfl rfl
                      clear h
                      have h := k180
                      refine go_if_ge (t := 478) (pc' := 474) dL_act_471 rfl rfl (fun c183 => ?_) (fun c183 => ?_)
                      · rw [if_pos (show 0 ≤ j172.1 from c183)] at h
                        refine go_iconst (pc' := 479) dL_act_478 rfl (r32_c rfl) ?_
                        cases h
                        exact k180J
                      · rw [if_neg (show ¬ (0 ≤ j172.1) from c183)] at h
                        refine go_iconst (pc' := 475) dL_act_474 rfl (r32_c rfl) ?_
                        refine go_goto (t := 479) dL_act_475 rfl ?_
                        cases h
                        exact k180J
                    clear h
                    have h := k173
                    refine go_icmp_le (t := 447) (pc' := 442) dL_act_439 rfl rfl (fun c184 => ?_) (fun c184 => ?_)
                    · rw [if_pos (show (j158.1 129 v1) ≤ 10 from c184)] at h
                      refine go_aload_n (pc' := 448) dL_act_447 rfl rfl (Nat.le_of_ble_eq_true rfl) ?_
                      refine go_iload (pc' := 450) dL_act_448 rfl rfl ?_
                      refine go_iload_n (pc' := 451) dL_act_450 rfl rfl ?_
                      refine go_bipush (pc' := 453) dL_act_451 rfl (r32_c rfl) (by decide) ?_
                      refine go_ishr (pc' := 454) dL_act_453 rfl ?_
                      refine go_bipush (pc' := 456) dL_act_454 rfl (r32_c rfl) (by decide) ?_
                      obtain ⟨v174, k175, h⟩ := bd h
                      have k175 := l_L_low (d + 8) n j158.2 j158.1 (ishr x3 6) 102 _ k175
                      refine go_call (kc := 41) (Mc := mt41) (v := some (pvI v174)) (w' := (true, n, j158.2, j158.1)) (pc' := 459) (st' := [pvI v174, pvI v1, pvR 10 0 0]) [pvI (ishr x3 6), pvI 102] [pvI v1, pvR 10 0 0] (Or.inr (Or.inl rfl)) dL_act_456 rfl rm_12_59 mtE41 rfl rfl rfl (Nat.le_of_ble_eq_true rfl) (Or.inl (by decide)) k175 rfl ?_
                      obtain ⟨v176, k177, h⟩ := bd h
                      have k177 := l_L_calculates (d + 5) n j158.2 j158.1 v1 v174 _ k177
                      refine go_call (kc := 52) (Mc := mt52) (v := some (pvI v176.1)) (w' := (true, v176.2.1, v176.2.2.1, v176.2.2.2)) (pc' := 462) (st' := [pvI v176.1]) [pvR 10 0 0, pvI v1, pvI v174] [] (Or.inr (Or.inl rfl)) dL_act_459 rfl rm_12_126 mtE52 rfl rfl rfl (Nat.le_of_ble_eq_true rfl) (Or.inl (by decide)) k177 rfl ?_
                      cases h
                      exact k173J
                    · rw [if_neg (show ¬ ((j158.1 129 v1) ≤ 10) from c184)] at h
                      refine go_bipush (pc' := 444) dL_act_442 rfl (r32_c rfl) (by decide) ?_
                      refine go_goto (t := 462) dL_act_444 rfl ?_
                      cases h
                      exact k173J
                  clear h
                  have h := k159
                  refine go_if_ne (t := 433) (pc' := 395) dL_act_392 rfl rfl (fun c185 => ?_) (fun c185 => ?_)
                  · rw [if_pos (show v156 ≠ 0 from c185)] at h
                    cases h
                    exact k159J
                  · rw [if_neg (show ¬ (v156 ≠ 0) from c185)] at h
                    refine go_aload_n (pc' := 396) dL_act_395 rfl rfl (Nat.le_of_ble_eq_true rfl) ?_
                    refine go_iload_n (pc' := 397) dL_act_396 rfl rfl ?_
                    refine go_iconst (pc' := 398) dL_act_397 rfl (r32_c rfl) ?_
                    refine go_ishr (pc' := 399) dL_act_398 rfl ?_
                    refine go_iconst (pc' := 400) dL_act_399 rfl (r32_c rfl) ?_
                    obtain ⟨v160, k161, h⟩ := bd h
                    have k161 := l_L_low (d + 8) n v154.2.1 v154.2.2 (ishr x3 4) 3 _ k161
                    refine go_call (kc := 41) (Mc := mt41) (v := some (pvI v160)) (w' := (true, n, v154.2.1, v154.2.2)) (pc' := 403) (st' := [pvI v160, pvR 10 0 0]) [pvI (ishr x3 4), pvI 3] [pvR 10 0 0] (Or.inr (Or.inl rfl)) dL_act_400 rfl rm_12_59 mtE41 rfl rfl rfl (Nat.le_of_ble_eq_true rfl) (Or.inl (by decide)) k161 rfl ?_
                    refine go_iload_n (pc' := 404) dL_act_403 rfl rfl ?_
                    refine go_bipush (pc' := 406) dL_act_404 rfl (r32_c rfl) (by decide) ?_
                    refine go_ishr (pc' := 407) dL_act_406 rfl ?_
                    refine go_iconst (pc' := 408) dL_act_407 rfl (r32_c rfl) ?_
                    obtain ⟨v162, k163, h⟩ := bd h
                    have k163 := l_L_low (d + 8) n v154.2.1 v154.2.2 (ishr x3 6) 3 _ k163
                    refine go_call (kc := 41) (Mc := mt41) (v := some (pvI v162)) (w' := (true, n, v154.2.1, v154.2.2)) (pc' := 411) (st' := [pvI v162, pvI v160, pvR 10 0 0]) [pvI (ishr x3 6), pvI 3] [pvI v160, pvR 10 0 0] (Or.inr (Or.inl rfl)) dL_act_408 rfl rm_12_59 mtE41 rfl rfl rfl (Nat.le_of_ble_eq_true rfl) (Or.inl (by decide)) k163 rfl ?_
                    refine go_iconst (pc' := 412) dL_act_411 rfl (r32_c rfl) ?_
                    obtain ⟨v164, k165, h⟩ := bd h
                    have k165 := l_L_words (d + 6) n v154.2.1 v154.2.2 v160 v162 0 _ k165
                    refine go_call (kc := 48) (Mc := mt48) (v := some (pvI v164.1)) (w' := (true, n, v164.2.1, v164.2.2)) (pc' := 415) (st' := [pvI v164.1]) [pvR 10 0 0, pvI v160, pvI v162, pvI 0] [] (Or.inr (Or.inl rfl)) dL_act_412 rfl rm_12_123 mtE48 rfl rfl rfl (Nat.le_of_ble_eq_true rfl) (Or.inl (by decide)) k165 rfl ?_
                    refine go_pop (pc' := 416) dL_act_415 rfl (Nat.ne_of_beq_eq_false rfl) ?_
                    refine go_aload_n (pc' := 417) dL_act_416 rfl rfl (Nat.le_of_ble_eq_true rfl) ?_
                    refine go_iconst (pc' := 418) dL_act_417 rfl (r32_c rfl) ?_
                    refine go_iload_n (pc' := 419) dL_act_418 rfl rfl ?_
                    refine go_bipush (pc' := 421) dL_act_419 rfl (r32_c rfl) (by decide) ?_
                    refine go_ishr (pc' := 422) dL_act_421 rfl ?_
                    refine go_iconst (pc' := 423) dL_act_422 rfl (r32_c rfl) ?_
                    obtain ⟨v166, k167, h⟩ := bd h
                    have k167 := l_L_low (d + 8) n v164.2.1 v164.2.2 (ishr x3 8) 5 _ k167
                    refine go_call (kc := 41) (Mc := mt41) (v := some (pvI v166)) (w' := (true, n, v164.2.1, v164.2.2)) (pc' := 426) (st' := [pvI v166, pvI 3, pvR 10 0 0]) [pvI (ishr x3 8), pvI 5] [pvI 3, pvR 10 0 0] (Or.inr (Or.inl rfl)) dL_act_423 rfl rm_12_59 mtE41 rfl rfl rfl (Nat.le_of_ble_eq_true rfl) (Or.inl (by decide)) k167 rfl ?_
                    obtain ⟨g168, h⟩ := gd h
                    refine go_iadd (pc' := 427) dL_act_426 rfl g168 ?_
                    refine go_iconst (pc' := 428) dL_act_427 rfl (r32_c rfl) ?_
                    refine go_iconst (pc' := 429) dL_act_428 rfl (r32_c rfl) ?_
                    obtain ⟨v169, k170, h⟩ := bd h
                    have k170 := l_L_words (d + 6) n v164.2.1 v164.2.2 (3 + v166) 0 0 _ k170
                    refine go_call (kc := 48) (Mc := mt48) (v := some (pvI v169.1)) (w' := (true, n, v169.2.1, v169.2.2)) (pc' := 432) (st' := [pvI v169.1]) [pvR 10 0 0, pvI (3 + v166), pvI 0, pvI 0] [] (Or.inr (Or.inl rfl)) dL_act_429 rfl rm_12_123 mtE48 rfl rfl rfl (Nat.le_of_ble_eq_true rfl) (Or.inl (by decide)) k170 rfl ?_
                    refine go_pop (pc' := 433) dL_act_432 rfl (Nat.ne_of_beq_eq_false rfl) ?_
                    cases h
                    exact k159J
                clear h
                have h := k149
                refine go_if_ne (t := 368) (pc' := 362) dL_act_359 rfl rfl (fun c186 => ?_) (fun c186 => ?_)
                · rw [if_pos (show v146 ≠ 0 from c186)] at h
                  refine go_bipush (pc' := 370) dL_act_368 rfl (r32_c rfl) (by decide) ?_
                  cases h
                  exact k149J
                · rw [if_neg (show ¬ (v146 ≠ 0) from c186)] at h
                  refine go_sipush (pc' := 365) dL_act_362 rfl (r32_c rfl) (by decide) ?_
                  refine go_goto (t := 370) dL_act_365 rfl ?_
                  cases h
                  exact k149J
              · rw [if_neg c187] at h
                by_cases c229 : x4 = 7
                · rw [if_pos c229] at h
                  refine go_table (t := 344) dL_act_22 (Or.inr ⟨by omega, by omega, by rw [c229]; rfl⟩) rfl ?_
                  refine go_iload_n (pc' := 345) dL_act_344 rfl rfl ?_
                  refine go_iconst (pc' := 346) dL_act_345 rfl (r32_c rfl) ?_
                  obtain ⟨v188, k189, h⟩ := bd h
                  have k189 := l_L_low (d + 8) n e σ x3 3 _ k189
                  refine go_call (kc := 41) (Mc := mt41) (v := some (pvI v188)) (w' := (true, n, e, σ)) (pc' := 349) (st' := [pvI v188]) [pvI x3, pvI 3] [] (Or.inr (Or.inl rfl)) dL_act_346 rfl rm_12_59 mtE41 rfl rfl rfl (Nat.le_of_ble_eq_true rfl) (Or.inl (by decide)) k189 rfl ?_
                  refine go_istore (L' := [some (pvR 10 0 0), some (pvR 12 5 129), some (pvI x3), some (pvI x4), some (pvI v1), some (pvI v5), some (pvI v188), none]) (pc' := 351) dL_act_349 rfl (Nat.le_of_ble_eq_true rfl) rfl ?_
                  refine go_aload_n (pc' := 352) dL_act_351 rfl rfl (Nat.le_of_ble_eq_true rfl) ?_
                  refine go_iload (pc' := 354) dL_act_352 rfl rfl ?_
                  refine go_iload_n (pc' := 355) dL_act_354 rfl rfl ?_
                  refine go_iconst (pc' := 356) dL_act_355 rfl (r32_c rfl) ?_
                  refine go_ishr (pc' := 357) dL_act_356 rfl ?_
                  refine go_iload (pc' := 359) dL_act_357 rfl rfl ?_
                  obtain ⟨j190, k191, h⟩ := bd h
                  have k191J : Go none (Ev (d + 9)) mt131 370 [some (pvR 10 0 0), some (pvR 12 5 129), some (pvI x3), some (pvI x4), some (pvI v1), some (pvI v5), some (pvI v188), none] [pvI j190, pvI (ishr x3 2), pvI v188, pvR 10 0 0] (true, n, e, σ) (0, some (pvI r.1), true, r.2.1, r.2.2.1, r.2.2.2) := by
                    obtain ⟨v192, k193, h⟩ := bd h
                    have k193 := l_L_low (d + 8) n e σ (ishr x3 2) j190 _ k193
                    refine go_call (kc := 41) (Mc := mt41) (v := some (pvI v192)) (w' := (true, n, e, σ)) (pc' := 373) (st' := [pvI v192, pvI v188, pvR 10 0 0]) [pvI (ishr x3 2), pvI j190] [pvI v188, pvR 10 0 0] (Or.inr (Or.inl rfl)) dL_act_370 rfl rm_12_59 mtE41 rfl rfl rfl (Nat.le_of_ble_eq_true rfl) (Or.inl (by decide)) k193 rfl ?_
                    refine go_iload_n (pc' := 374) dL_act_373 rfl rfl ?_
                    refine go_iconst (pc' := 375) dL_act_374 rfl (r32_c rfl) ?_
                    refine go_ishr (pc' := 376) dL_act_375 rfl ?_
                    refine go_iconst (pc' := 377) dL_act_376 rfl (r32_c rfl) ?_
                    obtain ⟨v194, k195, h⟩ := bd h
                    have k195 := l_L_low (d + 8) n e σ (ishr x3 5) 3 _ k195
                    refine go_call (kc := 41) (Mc := mt41) (v := some (pvI v194)) (w' := (true, n, e, σ)) (pc' := 380) (st' := [pvI v194, pvI v192, pvI v188, pvR 10 0 0]) [pvI (ishr x3 5), pvI 3] [pvI v192, pvI v188, pvR 10 0 0] (Or.inr (Or.inl rfl)) dL_act_377 rfl rm_12_59 mtE41 rfl rfl rfl (Nat.le_of_ble_eq_true rfl) (Or.inl (by decide)) k195 rfl ?_
                    obtain ⟨v196, k197, h⟩ := bd h
                    have k197 := l_L_words (d + 6) n e σ v188 v192 v194 _ k197
                    refine go_call (kc := 48) (Mc := mt48) (v := some (pvI v196.1)) (w' := (true, n, v196.2.1, v196.2.2)) (pc' := 383) (st' := [pvI v196.1]) [pvR 10 0 0, pvI v188, pvI v192, pvI v194] [] (Or.inr (Or.inl rfl)) dL_act_380 rfl rm_12_123 mtE48 rfl rfl rfl (Nat.le_of_ble_eq_true rfl) (Or.inl (by decide)) k197 rfl ?_
                    refine go_pop (pc' := 384) dL_act_383 rfl (Nat.ne_of_beq_eq_false rfl) ?_
                    refine go_iload_n (pc' := 385) dL_act_384 rfl rfl ?_
                    refine go_bipush (pc' := 387) dL_act_385 rfl (r32_c rfl) (by decide) ?_
                    refine go_ishr (pc' := 388) dL_act_387 rfl ?_
                    refine go_iconst (pc' := 389) dL_act_388 rfl (r32_c rfl) ?_
                    obtain ⟨v198, k199, h⟩ := bd h
                    have k199 := l_L_low (d + 8) n v196.2.1 v196.2.2 (ishr x3 7) 3 _ k199
                    refine go_call (kc := 41) (Mc := mt41) (v := some (pvI v198)) (w' := (true, n, v196.2.1, v196.2.2)) (pc' := 392) (st' := [pvI v198]) [pvI (ishr x3 7), pvI 3] [] (Or.inr (Or.inl rfl)) dL_act_389 rfl rm_12_59 mtE41 rfl rfl rfl (Nat.le_of_ble_eq_true rfl) (Or.inl (by decide)) k199 rfl ?_
                    obtain ⟨j200, k201, h⟩ := bd h
                    have k201J : Go none (Ev (d + 9)) mt131 433 [some (pvR 10 0 0), some (pvR 12 5 129), some (pvI x3), some (pvI x4), some (pvI v1), some (pvI v5), some (pvI v188), none] [] (true, n, j200.2, j200.1) (0, some (pvI r.1), true, r.2.1, r.2.2.1, r.2.2.2) := by
                      refine go_aload_n (pc' := 434) dL_act_433 rfl rfl (Nat.le_of_ble_eq_true rfl) ?_
                      refine go_iload (pc' := 436) dL_act_434 rfl rfl ?_
                      obtain ⟨g213, h⟩ := gd h
                      refine go_iald (pc' := 437) dL_act_436 rfl g213 ?_
                      refine go_bipush (pc' := 439) dL_act_437 rfl (r32_c rfl) (by decide) ?_
                      obtain ⟨j214, k215, h⟩ := bd h
                      have k215J : Go none (Ev (d + 9)) mt131 462 [some (pvR 10 0 0), some (pvR 12 5 129), some (pvI x3), some (pvI x4), some (pvI v1), some (pvI v5), some (pvI v188), none] [pvI j214.1] (true, j214.2.2.1, j214.2.2.2, j214.2.1) (0, some (pvI r.1), true, r.2.1, r.2.2.1, r.2.2.2) := by
                        refine go_istore (L' := [some (pvR 10 0 0), some (pvR 12 5 129), some (pvI x3), some (pvI x4), some (pvI v1), some (pvI v5), some (pvI v188), some (pvI j214.1)]) (pc' := 464) dL_act_462 rfl (Nat.le_of_ble_eq_true rfl) rfl ?_
                        refine go_aload_n (pc' := 465) dL_act_464 rfl rfl (Nat.le_of_ble_eq_true rfl) ?_
                        refine go_iload (pc' := 467) dL_act_465 rfl rfl ?_
                        refine go_dup2 (pc' := 468) dL_act_467 rfl (Nat.ne_of_beq_eq_false rfl) (Nat.ne_of_beq_eq_false rfl) ?_
                        obtain ⟨g220, h⟩ := gd h
                        refine go_iald (pc' := 469) dL_act_468 rfl g220 ?_
                        refine go_iload (pc' := 471) dL_act_469 rfl rfl ?_
                        obtain ⟨j221, k222, h⟩ := bd h
                        have k222J : Go none (Ev (d + 9)) mt131 479 [some (pvR 10 0 0), some (pvR 12 5 129), some (pvI x3), some (pvI x4), some (pvI v1), some (pvI v5), some (pvI v188), some (pvI j214.1)] [pvI j221, pvI (j214.2.1 129 v1), pvI v1, pvR 12 5 129] (true, j214.2.2.1, j214.2.2.2, j214.2.1) (0, some (pvI r.1), true, r.2.1, r.2.2.1, r.2.2.2) := by
                          obtain ⟨g223, h⟩ := gd h
                          refine go_iadd (pc' := 480) dL_act_479 rfl g223 ?_
                          obtain ⟨g224, h⟩ := gd h
                          refine go_iast (pc' := 481) dL_act_480 rfl g224 ?_
                          refine go_bipush (pc' := 483) dL_act_481 rfl (r32_c rfl) (by decide) ?_
                          cases h
                          exact go_iret dL_act_483 rfl rfl
                        clear h
                        have h := k222
                        refine go_if_ge (t := 478) (pc' := 474) dL_act_471 rfl rfl (fun c225 => ?_) (fun c225 => ?_)
                        · rw [if_pos (show 0 ≤ j214.1 from c225)] at h
                          refine go_iconst (pc' := 479) dL_act_478 rfl (r32_c rfl) ?_
                          cases h
                          exact k222J
                        · rw [if_neg (show ¬ (0 ≤ j214.1) from c225)] at h
                          refine go_iconst (pc' := 475) dL_act_474 rfl (r32_c rfl) ?_
                          refine go_goto (t := 479) dL_act_475 rfl ?_
                          cases h
                          exact k222J
                      clear h
                      have h := k215
                      refine go_icmp_le (t := 447) (pc' := 442) dL_act_439 rfl rfl (fun c226 => ?_) (fun c226 => ?_)
                      · rw [if_pos (show (j200.1 129 v1) ≤ 10 from c226)] at h
                        refine go_aload_n (pc' := 448) dL_act_447 rfl rfl (Nat.le_of_ble_eq_true rfl) ?_
                        refine go_iload (pc' := 450) dL_act_448 rfl rfl ?_
                        refine go_iload_n (pc' := 451) dL_act_450 rfl rfl ?_
                        refine go_bipush (pc' := 453) dL_act_451 rfl (r32_c rfl) (by decide) ?_
                        refine go_ishr (pc' := 454) dL_act_453 rfl ?_
                        refine go_bipush (pc' := 456) dL_act_454 rfl (r32_c rfl) (by decide) ?_
                        obtain ⟨v216, k217, h⟩ := bd h
                        have k217 := l_L_low (d + 8) n j200.2 j200.1 (ishr x3 6) 102 _ k217
                        refine go_call (kc := 41) (Mc := mt41) (v := some (pvI v216)) (w' := (true, n, j200.2, j200.1)) (pc' := 459) (st' := [pvI v216, pvI v1, pvR 10 0 0]) [pvI (ishr x3 6), pvI 102] [pvI v1, pvR 10 0 0] (Or.inr (Or.inl rfl)) dL_act_456 rfl rm_12_59 mtE41 rfl rfl rfl (Nat.le_of_ble_eq_true rfl) (Or.inl (by decide)) k217 rfl ?_
                        obtain ⟨v218, k219, h⟩ := bd h
                        have k219 := l_L_calculates (d + 5) n j200.2 j200.1 v1 v216 _ k219
                        refine go_call (kc := 52) (Mc := mt52) (v := some (pvI v218.1)) (w' := (true, v218.2.1, v218.2.2.1, v218.2.2.2)) (pc' := 462) (st' := [pvI v218.1]) [pvR 10 0 0, pvI v1, pvI v216] [] (Or.inr (Or.inl rfl)) dL_act_459 rfl rm_12_126 mtE52 rfl rfl rfl (Nat.le_of_ble_eq_true rfl) (Or.inl (by decide)) k219 rfl ?_
                        cases h
                        exact k215J
                      · rw [if_neg (show ¬ ((j200.1 129 v1) ≤ 10) from c226)] at h
                        refine go_bipush (pc' := 444) dL_act_442 rfl (r32_c rfl) (by decide) ?_
                        refine go_goto (t := 462) dL_act_444 rfl ?_
                        cases h
                        exact k215J
                    clear h
                    have h := k201
                    refine go_if_ne (t := 433) (pc' := 395) dL_act_392 rfl rfl (fun c227 => ?_) (fun c227 => ?_)
                    · rw [if_pos (show v198 ≠ 0 from c227)] at h
                      cases h
                      exact k201J
                    · rw [if_neg (show ¬ (v198 ≠ 0) from c227)] at h
                      refine go_aload_n (pc' := 396) dL_act_395 rfl rfl (Nat.le_of_ble_eq_true rfl) ?_
                      refine go_iload_n (pc' := 397) dL_act_396 rfl rfl ?_
                      refine go_iconst (pc' := 398) dL_act_397 rfl (r32_c rfl) ?_
                      refine go_ishr (pc' := 399) dL_act_398 rfl ?_
                      refine go_iconst (pc' := 400) dL_act_399 rfl (r32_c rfl) ?_
                      obtain ⟨v202, k203, h⟩ := bd h
                      have k203 := l_L_low (d + 8) n v196.2.1 v196.2.2 (ishr x3 4) 3 _ k203
                      refine go_call (kc := 41) (Mc := mt41) (v := some (pvI v202)) (w' := (true, n, v196.2.1, v196.2.2)) (pc' := 403) (st' := [pvI v202, pvR 10 0 0]) [pvI (ishr x3 4), pvI 3] [pvR 10 0 0] (Or.inr (Or.inl rfl)) dL_act_400 rfl rm_12_59 mtE41 rfl rfl rfl (Nat.le_of_ble_eq_true rfl) (Or.inl (by decide)) k203 rfl ?_
                      refine go_iload_n (pc' := 404) dL_act_403 rfl rfl ?_
                      refine go_bipush (pc' := 406) dL_act_404 rfl (r32_c rfl) (by decide) ?_
                      refine go_ishr (pc' := 407) dL_act_406 rfl ?_
                      refine go_iconst (pc' := 408) dL_act_407 rfl (r32_c rfl) ?_
                      obtain ⟨v204, k205, h⟩ := bd h
                      have k205 := l_L_low (d + 8) n v196.2.1 v196.2.2 (ishr x3 6) 3 _ k205
                      refine go_call (kc := 41) (Mc := mt41) (v := some (pvI v204)) (w' := (true, n, v196.2.1, v196.2.2)) (pc' := 411) (st' := [pvI v204, pvI v202, pvR 10 0 0]) [pvI (ishr x3 6), pvI 3] [pvI v202, pvR 10 0 0] (Or.inr (Or.inl rfl)) dL_act_408 rfl rm_12_59 mtE41 rfl rfl rfl (Nat.le_of_ble_eq_true rfl) (Or.inl (by decide)) k205 rfl ?_
                      refine go_iconst (pc' := 412) dL_act_411 rfl (r32_c rfl) ?_
                      obtain ⟨v206, k207, h⟩ := bd h
                      have k207 := l_L_words (d + 6) n v196.2.1 v196.2.2 v202 v204 0 _ k207
                      refine go_call (kc := 48) (Mc := mt48) (v := some (pvI v206.1)) (w' := (true, n, v206.2.1, v206.2.2)) (pc' := 415) (st' := [pvI v206.1]) [pvR 10 0 0, pvI v202, pvI v204, pvI 0] [] (Or.inr (Or.inl rfl)) dL_act_412 rfl rm_12_123 mtE48 rfl rfl rfl (Nat.le_of_ble_eq_true rfl) (Or.inl (by decide)) k207 rfl ?_
                      refine go_pop (pc' := 416) dL_act_415 rfl (Nat.ne_of_beq_eq_false rfl) ?_
                      refine go_aload_n (pc' := 417) dL_act_416 rfl rfl (Nat.le_of_ble_eq_true rfl) ?_
                      refine go_iconst (pc' := 418) dL_act_417 rfl (r32_c rfl) ?_
                      refine go_iload_n (pc' := 419) dL_act_418 rfl rfl ?_
                      refine go_bipush (pc' := 421) dL_act_419 rfl (r32_c rfl) (by decide) ?_
                      refine go_ishr (pc' := 422) dL_act_421 rfl ?_
                      refine go_iconst (pc' := 423) dL_act_422 rfl (r32_c rfl) ?_
                      obtain ⟨v208, k209, h⟩ := bd h
                      have k209 := l_L_low (d + 8) n v206.2.1 v206.2.2 (ishr x3 8) 5 _ k209
                      refine go_call (kc := 41) (Mc := mt41) (v := some (pvI v208)) (w' := (true, n, v206.2.1, v206.2.2)) (pc' := 426) (st' := [pvI v208, pvI 3, pvR 10 0 0]) [pvI (ishr x3 8), pvI 5] [pvI 3, pvR 10 0 0] (Or.inr (Or.inl rfl)) dL_act_423 rfl rm_12_59 mtE41 rfl rfl rfl (Nat.le_of_ble_eq_true rfl) (Or.inl (by decide)) k209 rfl ?_
                      obtain ⟨g210, h⟩ := gd h
                      refine go_iadd (pc' := 427) dL_act_426 rfl g210 ?_
                      refine go_iconst (pc' := 428) dL_act_427 rfl (r32_c rfl) ?_
                      refine go_iconst (pc' := 429) dL_act_428 rfl (r32_c rfl) ?_
                      obtain ⟨v211, k212, h⟩ := bd h
                      have k212 := l_L_words (d + 6) n v206.2.1 v206.2.2 (3 + v208) 0 0 _ k212
                      refine go_call (kc := 48) (Mc := mt48) (v := some (pvI v211.1)) (w' := (true, n, v211.2.1, v211.2.2)) (pc' := 432) (st' := [pvI v211.1]) [pvR 10 0 0, pvI (3 + v208), pvI 0, pvI 0] [] (Or.inr (Or.inl rfl)) dL_act_429 rfl rm_12_123 mtE48 rfl rfl rfl (Nat.le_of_ble_eq_true rfl) (Or.inl (by decide)) k212 rfl ?_
                      refine go_pop (pc' := 433) dL_act_432 rfl (Nat.ne_of_beq_eq_false rfl) ?_
                      cases h
                      exact k201J
                  clear h
                  have h := k191
                  refine go_if_ne (t := 368) (pc' := 362) dL_act_359 rfl rfl (fun c228 => ?_) (fun c228 => ?_)
                  · rw [if_pos (show v188 ≠ 0 from c228)] at h
                    refine go_bipush (pc' := 370) dL_act_368 rfl (r32_c rfl) (by decide) ?_
                    cases h
                    exact k191J
                  · rw [if_neg (show ¬ (v188 ≠ 0) from c228)] at h
                    refine go_sipush (pc' := 365) dL_act_362 rfl (r32_c rfl) (by decide) ?_
                    refine go_goto (t := 370) dL_act_365 rfl ?_
                    cases h
                    exact k191J
                · rw [if_neg c229] at h
                  by_cases c254 : x4 = 8
                  · rw [if_pos c254] at h
                    refine go_table (t := 484) dL_act_22 (Or.inr ⟨by omega, by omega, by rw [c254]; rfl⟩) rfl ?_
                    refine go_aload_n (pc' := 485) dL_act_484 rfl rfl (Nat.le_of_ble_eq_true rfl) ?_
                    refine go_iconst (pc' := 486) dL_act_485 rfl (r32_c rfl) ?_
                    obtain ⟨g230, h⟩ := gd h
                    refine go_iald (pc' := 487) dL_act_486 rfl g230 ?_
                    refine go_iconst (pc' := 488) dL_act_487 rfl (r32_c rfl) ?_
                    obtain ⟨j231, k232, h⟩ := bd h
                    have k232J : Go none (Ev (d + 9)) mt131 551 [some (pvR 10 0 0), some (pvR 12 5 129), some (pvI x3), some (pvI x4), some (pvI v1), some (pvI v5), none, none] [pvI j231.1] (true, n, j231.2.2, j231.2.1) (0, some (pvI r.1), true, r.2.1, r.2.2.1, r.2.2.2) := by
                      cases h
                      exact go_iret dL_act_551 rfl rfl
                    clear h
                    have h := k232
                    refine go_icmp_ne (t := 505) (pc' := 491) dL_act_488 rfl rfl (fun c253 => ?_) (fun c253 => ?_)
                    · rw [if_pos (show (σ 129 3) ≠ 4 from c253)] at h
                      refine go_aload_n (pc' := 506) dL_act_505 rfl rfl (Nat.le_of_ble_eq_true rfl) ?_
                      refine go_iconst (pc' := 507) dL_act_506 rfl (r32_c rfl) ?_
                      obtain ⟨g233, h⟩ := gd h
                      refine go_iald (pc' := 508) dL_act_507 rfl g233 ?_
                      refine go_if_ge (t := 516) (pc' := 511) dL_act_508 rfl rfl (fun c248 => ?_) (fun c248 => ?_)
                      · rw [if_pos (show 0 ≤ (σ 129 3) from c248)] at h
                        refine go_aload_n (pc' := 517) dL_act_516 rfl rfl (Nat.le_of_ble_eq_true rfl) ?_
                        refine go_aload_n (pc' := 518) dL_act_517 rfl rfl (Nat.le_of_ble_eq_true rfl) ?_
                        refine go_iload_n (pc' := 519) dL_act_518 rfl rfl ?_
                        refine go_iconst (pc' := 520) dL_act_519 rfl (r32_c rfl) ?_
                        obtain ⟨v234, k235, h⟩ := bd h
                        have k235 := l_L_low (d + 8) n e σ x3 5 _ k235
                        refine go_call (kc := 41) (Mc := mt41) (v := some (pvI v234)) (w' := (true, n, e, σ)) (pc' := 523) (st' := [pvI v234, pvR 10 0 0, pvR 12 5 129]) [pvI x3, pvI 5] [pvR 10 0 0, pvR 12 5 129] (Or.inr (Or.inl rfl)) dL_act_520 rfl rm_12_59 mtE41 rfl rfl rfl (Nat.le_of_ble_eq_true rfl) (Or.inl (by decide)) k235 rfl ?_
                        refine go_iload_n (pc' := 524) dL_act_523 rfl rfl ?_
                        refine go_iconst (pc' := 525) dL_act_524 rfl (r32_c rfl) ?_
                        refine go_ishr (pc' := 526) dL_act_525 rfl ?_
                        refine go_aload_n (pc' := 527) dL_act_526 rfl rfl (Nat.le_of_ble_eq_true rfl) ?_
                        refine go_iconst (pc' := 528) dL_act_527 rfl (r32_c rfl) ?_
                        obtain ⟨g236, h⟩ := gd h
                        refine go_iald (pc' := 529) dL_act_528 rfl g236 ?_
                        refine go_iconst (pc' := 530) dL_act_529 rfl (r32_c rfl) ?_
                        obtain ⟨g237, h⟩ := gd h
                        refine go_iadd (pc' := 531) dL_act_530 rfl g237 ?_
                        obtain ⟨v238, k239, h⟩ := bd h
                        have k239 := l_L_low (d + 8) n e σ (ishr x3 3) ((σ 129 3) + 1) _ k239
                        refine go_call (kc := 41) (Mc := mt41) (v := some (pvI v238)) (w' := (true, n, e, σ)) (pc' := 534) (st' := [pvI v238, pvI v234, pvR 10 0 0, pvR 12 5 129]) [pvI (ishr x3 3), pvI ((σ 129 3) + 1)] [pvI v234, pvR 10 0 0, pvR 12 5 129] (Or.inr (Or.inl rfl)) dL_act_531 rfl rm_12_59 mtE41 rfl rfl rfl (Nat.le_of_ble_eq_true rfl) (Or.inl (by decide)) k239 rfl ?_
                        refine go_iload_n (pc' := 535) dL_act_534 rfl rfl ?_
                        refine go_iconst (pc' := 536) dL_act_535 rfl (r32_c rfl) ?_
                        refine go_ishr (pc' := 537) dL_act_536 rfl ?_
                        refine go_aload_n (pc' := 538) dL_act_537 rfl rfl (Nat.le_of_ble_eq_true rfl) ?_
                        refine go_iconst (pc' := 539) dL_act_538 rfl (r32_c rfl) ?_
                        obtain ⟨g240, h⟩ := gd h
                        refine go_iald (pc' := 540) dL_act_539 rfl g240 ?_
                        refine go_iconst (pc' := 541) dL_act_540 rfl (r32_c rfl) ?_
                        obtain ⟨g241, h⟩ := gd h
                        refine go_iadd (pc' := 542) dL_act_541 rfl g241 ?_
                        obtain ⟨v242, k243, h⟩ := bd h
                        have k243 := l_L_low (d + 8) n e σ (ishr x3 5) ((σ 129 3) + 1) _ k243
                        refine go_call (kc := 41) (Mc := mt41) (v := some (pvI v242)) (w' := (true, n, e, σ)) (pc' := 545) (st' := [pvI v242, pvI v238, pvI v234, pvR 10 0 0, pvR 12 5 129]) [pvI (ishr x3 5), pvI ((σ 129 3) + 1)] [pvI v238, pvI v234, pvR 10 0 0, pvR 12 5 129] (Or.inr (Or.inl rfl)) dL_act_542 rfl rm_12_59 mtE41 rfl rfl rfl (Nat.le_of_ble_eq_true rfl) (Or.inl (by decide)) k243 rfl ?_
                        obtain ⟨v244, k245, h⟩ := bd h
                        have k245 := l_L_measures (d + 5) n e σ v234 v238 v242 _ k245
                        refine go_call (kc := 56) (Mc := mt56) (v := some (pvI v244.1)) (w' := (true, n, v244.2.1, v244.2.2)) (pc' := 548) (st' := [pvI v244.1, pvR 12 5 129]) [pvR 10 0 0, pvI v234, pvI v238, pvI v242] [pvR 12 5 129] (Or.inr (Or.inl rfl)) dL_act_545 rfl rm_12_129 mtE56 rfl rfl rfl (Nat.le_of_ble_eq_true rfl) (Or.inl (by decide)) k245 rfl ?_
                        obtain ⟨v246, k247, h⟩ := bd h
                        have k247 := l_L_grow (d + 8) n v244.2.1 v244.2.2 v244.1 _ k247
                        refine go_call (kc := 140) (Mc := mt140) (v := some (pvI v246.1)) (w' := (true, n, v244.2.1, v246.2)) (pc' := 551) (st' := [pvI v246.1]) [pvR 12 5 129, pvI v244.1] [] (Or.inr (Or.inl rfl)) dL_act_548 rfl rm_12_132 mtE140 rfl rfl rfl (Nat.le_of_ble_eq_true rfl) (Or.inl (by decide)) k247 rfl ?_
                        cases h
                        exact k232J
                      · rw [if_neg (show ¬ (0 ≤ (σ 129 3)) from c248)] at h
                        refine go_bipush (pc' := 513) dL_act_511 rfl (r32_c rfl) (by decide) ?_
                        refine go_goto (t := 551) dL_act_513 rfl ?_
                        cases h
                        exact k232J
                    · rw [if_neg (show ¬ ((σ 129 3) ≠ 4) from c253)] at h
                      refine go_aload_n (pc' := 492) dL_act_491 rfl rfl (Nat.le_of_ble_eq_true rfl) ?_
                      refine go_iload_n (pc' := 493) dL_act_492 rfl rfl ?_
                      refine go_iconst (pc' := 494) dL_act_493 rfl (r32_c rfl) ?_
                      obtain ⟨v249, k250, h⟩ := bd h
                      have k250 := l_L_low (d + 8) n e σ x3 5 _ k250
                      refine go_call (kc := 41) (Mc := mt41) (v := some (pvI v249)) (w' := (true, n, e, σ)) (pc' := 497) (st' := [pvI v249, pvR 10 0 0]) [pvI x3, pvI 5] [pvR 10 0 0] (Or.inr (Or.inl rfl)) dL_act_494 rfl rm_12_59 mtE41 rfl rfl rfl (Nat.le_of_ble_eq_true rfl) (Or.inl (by decide)) k250 rfl ?_
                      refine go_iconst (pc' := 498) dL_act_497 rfl (r32_c rfl) ?_
                      refine go_iconst (pc' := 499) dL_act_498 rfl (r32_c rfl) ?_
                      obtain ⟨v251, k252, h⟩ := bd h
                      have k252 := l_L_measures (d + 5) n e σ v249 0 0 _ k252
                      refine go_call (kc := 56) (Mc := mt56) (v := some (pvI v251.1)) (w' := (true, n, v251.2.1, v251.2.2)) (pc' := 502) (st' := [pvI v251.1]) [pvR 10 0 0, pvI v249, pvI 0, pvI 0] [] (Or.inr (Or.inl rfl)) dL_act_499 rfl rm_12_129 mtE56 rfl rfl rfl (Nat.le_of_ble_eq_true rfl) (Or.inl (by decide)) k252 rfl ?_
                      refine go_goto (t := 551) dL_act_502 rfl ?_
                      cases h
                      exact k232J
                  · rw [if_neg c254] at h
                    by_cases c263 : x4 = 9
                    · rw [if_pos c263] at h
                      refine go_table (t := 552) dL_act_22 (Or.inr ⟨by omega, by omega, by rw [c263]; rfl⟩) rfl ?_
                      refine go_aload_n (pc' := 553) dL_act_552 rfl rfl (Nat.le_of_ble_eq_true rfl) ?_
                      refine go_iload_n (pc' := 554) dL_act_553 rfl rfl ?_
                      refine go_iconst (pc' := 555) dL_act_554 rfl (r32_c rfl) ?_
                      refine go_ishr (pc' := 556) dL_act_555 rfl ?_
                      refine go_aload_n (pc' := 557) dL_act_556 rfl rfl (Nat.le_of_ble_eq_true rfl) ?_
                      refine go_iconst (pc' := 558) dL_act_557 rfl (r32_c rfl) ?_
                      obtain ⟨g255, h⟩ := gd h
                      refine go_iald (pc' := 559) dL_act_558 rfl g255 ?_
                      obtain ⟨v256, k257, h⟩ := bd h
                      have k257 := l_L_low (d + 8) n e σ (ishr x3 3) (σ 129 3) _ k257
                      refine go_call (kc := 41) (Mc := mt41) (v := some (pvI v256)) (w' := (true, n, e, σ)) (pc' := 562) (st' := [pvI v256, pvR 10 0 0]) [pvI (ishr x3 3), pvI (σ 129 3)] [pvR 10 0 0] (Or.inr (Or.inl rfl)) dL_act_559 rfl rm_12_59 mtE41 rfl rfl rfl (Nat.le_of_ble_eq_true rfl) (Or.inl (by decide)) k257 rfl ?_
                      refine go_iload (pc' := 564) dL_act_562 rfl rfl ?_
                      refine go_iload_n (pc' := 565) dL_act_564 rfl rfl ?_
                      refine go_iconst (pc' := 566) dL_act_565 rfl (r32_c rfl) ?_
                      refine go_ishr (pc' := 567) dL_act_566 rfl ?_
                      refine go_iconst (pc' := 568) dL_act_567 rfl (r32_c rfl) ?_
                      obtain ⟨v258, k259, h⟩ := bd h
                      have k259 := l_L_low (d + 8) n e σ (ishr x3 5) 3 _ k259
                      refine go_call (kc := 41) (Mc := mt41) (v := some (pvI v258)) (w' := (true, n, e, σ)) (pc' := 571) (st' := [pvI v258, pvI v1, pvI v256, pvR 10 0 0]) [pvI (ishr x3 5), pvI 3] [pvI v1, pvI v256, pvR 10 0 0] (Or.inr (Or.inl rfl)) dL_act_568 rfl rm_12_59 mtE41 rfl rfl rfl (Nat.le_of_ble_eq_true rfl) (Or.inl (by decide)) k259 rfl ?_
                      obtain ⟨v260, k261, h⟩ := bd h
                      obtain ⟨g262, h⟩ := gd h
                      have k261 := l_C_from (d + 5) n e σ v256 v1 v258 _ k261
                      rw [g262] at k261
                      refine go_call (kc := 141) (Mc := mt141) (v := some (pvI v260.2.1)) (w' := (true, n, e, v260.2.2)) (pc' := 574) (st' := [pvI v260.2.1]) [pvR 10 0 0, pvI v256, pvI v1, pvI v258] [] (Or.inl rfl) dL_act_571 rfl rm_12_136 mtE141 rfl rfl rfl (Nat.le_of_ble_eq_true rfl) (Or.inr ⟨_, _, 0, rfl, Or.inl rfl⟩) k261 rfl ?_
                      cases h
                      exact go_iret dL_act_574 rfl rfl
                    · rw [if_neg c263] at h
                      by_cases c284 : x4 = 10
                      · rw [if_pos c284] at h
                        refine go_table (t := 575) dL_act_22 (Or.inr ⟨by omega, by omega, by rw [c284]; rfl⟩) rfl ?_
                        refine go_aload_n (pc' := 576) dL_act_575 rfl rfl (Nat.le_of_ble_eq_true rfl) ?_
                        refine go_iload_n (pc' := 577) dL_act_576 rfl rfl ?_
                        refine go_aload_n (pc' := 578) dL_act_577 rfl rfl (Nat.le_of_ble_eq_true rfl) ?_
                        refine go_iconst (pc' := 579) dL_act_578 rfl (r32_c rfl) ?_
                        obtain ⟨g264, h⟩ := gd h
                        refine go_iald (pc' := 580) dL_act_579 rfl g264 ?_
                        refine go_iconst (pc' := 581) dL_act_580 rfl (r32_c rfl) ?_
                        obtain ⟨g265, h⟩ := gd h
                        refine go_iadd (pc' := 582) dL_act_581 rfl g265 ?_
                        obtain ⟨v266, k267, h⟩ := bd h
                        have k267 := l_L_low (d + 8) n e σ x3 ((σ 129 0) + 1) _ k267
                        refine go_call (kc := 41) (Mc := mt41) (v := some (pvI v266)) (w' := (true, n, e, σ)) (pc' := 585) (st' := [pvI v266, pvR 10 0 0]) [pvI x3, pvI ((σ 129 0) + 1)] [pvR 10 0 0] (Or.inr (Or.inl rfl)) dL_act_582 rfl rm_12_59 mtE41 rfl rfl rfl (Nat.le_of_ble_eq_true rfl) (Or.inl (by decide)) k267 rfl ?_
                        refine go_iload_n (pc' := 586) dL_act_585 rfl rfl ?_
                        refine go_iconst (pc' := 587) dL_act_586 rfl (r32_c rfl) ?_
                        refine go_ishr (pc' := 588) dL_act_587 rfl ?_
                        refine go_aload_n (pc' := 589) dL_act_588 rfl rfl (Nat.le_of_ble_eq_true rfl) ?_
                        refine go_iconst (pc' := 590) dL_act_589 rfl (r32_c rfl) ?_
                        obtain ⟨g268, h⟩ := gd h
                        refine go_iald (pc' := 591) dL_act_590 rfl g268 ?_
                        obtain ⟨v269, k270, h⟩ := bd h
                        have k270 := l_L_low (d + 8) n e σ (ishr x3 3) (σ 129 1) _ k270
                        refine go_call (kc := 41) (Mc := mt41) (v := some (pvI v269)) (w' := (true, n, e, σ)) (pc' := 594) (st' := [pvI v269, pvI v266, pvR 10 0 0]) [pvI (ishr x3 3), pvI (σ 129 1)] [pvI v266, pvR 10 0 0] (Or.inr (Or.inl rfl)) dL_act_591 rfl rm_12_59 mtE41 rfl rfl rfl (Nat.le_of_ble_eq_true rfl) (Or.inl (by decide)) k270 rfl ?_
                        refine go_iload_n (pc' := 595) dL_act_594 rfl rfl ?_
                        refine go_iconst (pc' := 596) dL_act_595 rfl (r32_c rfl) ?_
                        refine go_ishr (pc' := 597) dL_act_596 rfl ?_
                        refine go_aload_n (pc' := 598) dL_act_597 rfl rfl (Nat.le_of_ble_eq_true rfl) ?_
                        refine go_iconst (pc' := 599) dL_act_598 rfl (r32_c rfl) ?_
                        obtain ⟨g271, h⟩ := gd h
                        refine go_iald (pc' := 600) dL_act_599 rfl g271 ?_
                        obtain ⟨v272, k273, h⟩ := bd h
                        have k273 := l_L_low (d + 8) n e σ (ishr x3 5) (σ 129 2) _ k273
                        refine go_call (kc := 41) (Mc := mt41) (v := some (pvI v272)) (w' := (true, n, e, σ)) (pc' := 603) (st' := [pvI v272, pvI v269, pvI v266, pvR 10 0 0]) [pvI (ishr x3 5), pvI (σ 129 2)] [pvI v269, pvI v266, pvR 10 0 0] (Or.inr (Or.inl rfl)) dL_act_600 rfl rm_12_59 mtE41 rfl rfl rfl (Nat.le_of_ble_eq_true rfl) (Or.inl (by decide)) k273 rfl ?_
                        refine go_iload_n (pc' := 604) dL_act_603 rfl rfl ?_
                        refine go_bipush (pc' := 606) dL_act_604 rfl (r32_c rfl) (by decide) ?_
                        refine go_ishr (pc' := 607) dL_act_606 rfl ?_
                        refine go_aload_n (pc' := 608) dL_act_607 rfl rfl (Nat.le_of_ble_eq_true rfl) ?_
                        refine go_iconst (pc' := 609) dL_act_608 rfl (r32_c rfl) ?_
                        obtain ⟨g274, h⟩ := gd h
                        refine go_iald (pc' := 610) dL_act_609 rfl g274 ?_
                        obtain ⟨v275, k276, h⟩ := bd h
                        have k276 := l_L_low (d + 8) n e σ (ishr x3 7) (σ 129 3) _ k276
                        refine go_call (kc := 41) (Mc := mt41) (v := some (pvI v275)) (w' := (true, n, e, σ)) (pc' := 613) (st' := [pvI v275, pvI v272, pvI v269, pvI v266, pvR 10 0 0]) [pvI (ishr x3 7), pvI (σ 129 3)] [pvI v272, pvI v269, pvI v266, pvR 10 0 0] (Or.inr (Or.inl rfl)) dL_act_610 rfl rm_12_59 mtE41 rfl rfl rfl (Nat.le_of_ble_eq_true rfl) (Or.inl (by decide)) k276 rfl ?_
                        refine go_iload_n (pc' := 614) dL_act_613 rfl rfl ?_
                        refine go_iconst (pc' := 615) dL_act_614 rfl (r32_c rfl) ?_
                        refine go_ishr (pc' := 616) dL_act_615 rfl ?_
                        refine go_sipush (pc' := 619) dL_act_616 rfl (r32_c rfl) (by decide) ?_
                        obtain ⟨v277, k278, h⟩ := bd h
                        have k278 := l_L_low (d + 8) n e σ (ishr x3 4) 2000 _ k278
                        refine go_call (kc := 41) (Mc := mt41) (v := some (pvI v277)) (w' := (true, n, e, σ)) (pc' := 622) (st' := [pvI v277, pvI v275, pvI v272, pvI v269, pvI v266, pvR 10 0 0]) [pvI (ishr x3 4), pvI 2000] [pvI v275, pvI v272, pvI v269, pvI v266, pvR 10 0 0] (Or.inr (Or.inl rfl)) dL_act_619 rfl rm_12_59 mtE41 rfl rfl rfl (Nat.le_of_ble_eq_true rfl) (Or.inl (by decide)) k278 rfl ?_
                        refine go_bipush (pc' := 624) dL_act_622 rfl (r32_c rfl) (by decide) ?_
                        obtain ⟨g279, h⟩ := gd h
                        refine go_isub (pc' := 625) dL_act_624 rfl g279 ?_
                        refine go_iload_n (pc' := 626) dL_act_625 rfl rfl ?_
                        refine go_bipush (pc' := 628) dL_act_626 rfl (r32_c rfl) (by decide) ?_
                        refine go_ishr (pc' := 629) dL_act_628 rfl ?_
                        refine go_iconst (pc' := 630) dL_act_629 rfl (r32_c rfl) ?_
                        obtain ⟨v280, k281, h⟩ := bd h
                        have k281 := l_L_low (d + 8) n e σ (ishr x3 8) 4 _ k281
                        refine go_call (kc := 41) (Mc := mt41) (v := some (pvI v280)) (w' := (true, n, e, σ)) (pc' := 633) (st' := [pvI v280, pvI (v277 - 9), pvI v275, pvI v272, pvI v269, pvI v266, pvR 10 0 0]) [pvI (ishr x3 8), pvI 4] [pvI (v277 - 9), pvI v275, pvI v272, pvI v269, pvI v266, pvR 10 0 0] (Or.inr (Or.inl rfl)) dL_act_630 rfl rm_12_59 mtE41 rfl rfl rfl (Nat.le_of_ble_eq_true rfl) (Or.inl (by decide)) k281 rfl ?_
                        obtain ⟨v282, k283, h⟩ := bd h
                        have k283 := l_L_writes (d + 0) n e σ v266 v269 v272 v275 (v277 - 9) v280 _ k283
                        refine go_call (kc := 143) (Mc := mt143) (v := some (pvI v282.1)) (w' := (true, n, v282.2.1, v282.2.2)) (pc' := 636) (st' := [pvI v282.1]) [pvR 10 0 0, pvI v266, pvI v269, pvI v272, pvI v275, pvI (v277 - 9), pvI v280] [] (Or.inr (Or.inl rfl)) dL_act_633 rfl rm_12_139 mtE143 rfl rfl rfl (Nat.le_of_ble_eq_true rfl) (Or.inl (by decide)) k283 rfl ?_
                        cases h
                        exact go_iret dL_act_636 rfl rfl
                      · rw [if_neg c284] at h
                        by_cases c299 : x4 = 11
                        · rw [if_pos c299] at h
                          refine go_table (t := 637) dL_act_22 (Or.inr ⟨by omega, by omega, by rw [c299]; rfl⟩) rfl ?_
                          refine go_iload_n (pc' := 638) dL_act_637 rfl rfl ?_
                          refine go_iconst (pc' := 639) dL_act_638 rfl (r32_c rfl) ?_
                          obtain ⟨v285, k286, h⟩ := bd h
                          have k286 := l_L_low (d + 8) n e σ x3 2 _ k286
                          refine go_call (kc := 41) (Mc := mt41) (v := some (pvI v285)) (w' := (true, n, e, σ)) (pc' := 642) (st' := [pvI v285]) [pvI x3, pvI 2] [] (Or.inr (Or.inl rfl)) dL_act_639 rfl rm_12_59 mtE41 rfl rfl rfl (Nat.le_of_ble_eq_true rfl) (Or.inl (by decide)) k286 rfl ?_
                          obtain ⟨j287, k288, h⟩ := bd h
                          have k288J : Go none (Ev (d + 9)) mt131 671 [some (pvR 10 0 0), some (pvR 12 5 129), some (pvI x3), some (pvI x4), some (pvI v1), some (pvI v5), none, none] [pvI j287.1] (true, n, j287.2.2, j287.2.1) (0, some (pvI r.1), true, r.2.1, r.2.2.1, r.2.2.2) := by
                            cases h
                            exact go_iret dL_act_671 rfl rfl
                          clear h
                          have h := k288
                          refine go_if_ne (t := 652) (pc' := 645) dL_act_642 rfl rfl (fun c298 => ?_) (fun c298 => ?_)
                          · rw [if_pos (show v285 ≠ 0 from c298)] at h
                            refine go_aload_n (pc' := 653) dL_act_652 rfl rfl (Nat.le_of_ble_eq_true rfl) ?_
                            refine go_iload_n (pc' := 654) dL_act_653 rfl rfl ?_
                            refine go_iconst (pc' := 655) dL_act_654 rfl (r32_c rfl) ?_
                            refine go_ishr (pc' := 656) dL_act_655 rfl ?_
                            refine go_iconst (pc' := 657) dL_act_656 rfl (r32_c rfl) ?_
                            obtain ⟨v289, k290, h⟩ := bd h
                            have k290 := l_L_low (d + 8) n e σ (ishr x3 2) 2 _ k290
                            refine go_call (kc := 41) (Mc := mt41) (v := some (pvI v289)) (w' := (true, n, e, σ)) (pc' := 660) (st' := [pvI v289, pvR 10 0 0]) [pvI (ishr x3 2), pvI 2] [pvR 10 0 0] (Or.inr (Or.inl rfl)) dL_act_657 rfl rm_12_59 mtE41 rfl rfl rfl (Nat.le_of_ble_eq_true rfl) (Or.inl (by decide)) k290 rfl ?_
                            obtain ⟨j291, k292, h⟩ := bd h
                            have k292J : Go none (Ev (d + 9)) mt131 668 [some (pvR 10 0 0), some (pvR 12 5 129), some (pvI x3), some (pvI x4), some (pvI v1), some (pvI v5), none, none] [pvI j291, pvR 10 0 0] (true, n, e, σ) (0, some (pvI r.1), true, r.2.1, r.2.2.1, r.2.2.2) := by
                              obtain ⟨v293, k294, h⟩ := bd h
                              have k294 := l_L_ends (d + 6) n e σ j291 _ k294
                              refine go_call (kc := 160) (Mc := mt160) (v := some (pvI v293.1)) (w' := (true, n, v293.2.1, v293.2.2)) (pc' := 671) (st' := [pvI v293.1]) [pvR 10 0 0, pvI j291] [] (Or.inr (Or.inl rfl)) dL_act_668 rfl rm_12_147 mtE160 rfl rfl rfl (Nat.le_of_ble_eq_true rfl) (Or.inl (by decide)) k294 rfl ?_
                              cases h
                              exact k288J
                            clear h
                            have h := k292
                            refine go_if_ne (t := 667) (pc' := 663) dL_act_660 rfl rfl (fun c295 => ?_) (fun c295 => ?_)
                            · rw [if_pos (show v289 ≠ 0 from c295)] at h
                              refine go_iconst (pc' := 668) dL_act_667 rfl (r32_c rfl) ?_
                              cases h
                              exact k292J
                            · rw [if_neg (show ¬ (v289 ≠ 0) from c295)] at h
                              refine go_iconst (pc' := 664) dL_act_663 rfl (r32_c rfl) ?_
                              refine go_goto (t := 668) dL_act_664 rfl ?_
                              cases h
                              exact k292J
                          · rw [if_neg (show ¬ (v285 ≠ 0) from c298)] at h
                            refine go_aload_n (pc' := 646) dL_act_645 rfl rfl (Nat.le_of_ble_eq_true rfl) ?_
                            obtain ⟨v296, k297, h⟩ := bd h
                            have k297 := l_L_begins (d + 6) n e σ _ k297
                            refine go_call (kc := 157) (Mc := mt157) (v := some (pvI v296.1)) (w' := (true, n, v296.2.1, v296.2.2)) (pc' := 649) (st' := [pvI v296.1]) [pvR 10 0 0] [] (Or.inr (Or.inl rfl)) dL_act_646 rfl rm_12_143 mtE157 rfl rfl rfl (Nat.le_of_ble_eq_true rfl) (Or.inl (by decide)) k297 rfl ?_
                            refine go_goto (t := 671) dL_act_649 rfl ?_
                            cases h
                            exact k288J
                        · rw [if_neg c299] at h
                          refine go_table (t := 672) dL_act_22 (Or.inl ⟨by omega, rfl⟩) rfl ?_
                          refine go_aload_n (pc' := 673) dL_act_672 rfl rfl (Nat.le_of_ble_eq_true rfl) ?_
                          refine go_iload_n (pc' := 674) dL_act_673 rfl rfl ?_
                          refine go_aload_n (pc' := 675) dL_act_674 rfl rfl (Nat.le_of_ble_eq_true rfl) ?_
                          refine go_iconst (pc' := 676) dL_act_675 rfl (r32_c rfl) ?_
                          obtain ⟨g300, h⟩ := gd h
                          refine go_iald (pc' := 677) dL_act_676 rfl g300 ?_
                          refine go_iconst (pc' := 678) dL_act_677 rfl (r32_c rfl) ?_
                          obtain ⟨g301, h⟩ := gd h
                          refine go_iadd (pc' := 679) dL_act_678 rfl g301 ?_
                          obtain ⟨v302, k303, h⟩ := bd h
                          have k303 := l_L_low (d + 8) n e σ x3 ((σ 129 0) + 1) _ k303
                          refine go_call (kc := 41) (Mc := mt41) (v := some (pvI v302)) (w' := (true, n, e, σ)) (pc' := 682) (st' := [pvI v302, pvR 10 0 0]) [pvI x3, pvI ((σ 129 0) + 1)] [pvR 10 0 0] (Or.inr (Or.inl rfl)) dL_act_679 rfl rm_12_59 mtE41 rfl rfl rfl (Nat.le_of_ble_eq_true rfl) (Or.inl (by decide)) k303 rfl ?_
                          refine go_iload_n (pc' := 683) dL_act_682 rfl rfl ?_
                          refine go_iconst (pc' := 684) dL_act_683 rfl (r32_c rfl) ?_
                          refine go_ishr (pc' := 685) dL_act_684 rfl ?_
                          refine go_aload_n (pc' := 686) dL_act_685 rfl rfl (Nat.le_of_ble_eq_true rfl) ?_
                          refine go_iconst (pc' := 687) dL_act_686 rfl (r32_c rfl) ?_
                          obtain ⟨g304, h⟩ := gd h
                          refine go_iald (pc' := 688) dL_act_687 rfl g304 ?_
                          obtain ⟨v305, k306, h⟩ := bd h
                          have k306 := l_L_low (d + 8) n e σ (ishr x3 3) (σ 129 1) _ k306
                          refine go_call (kc := 41) (Mc := mt41) (v := some (pvI v305)) (w' := (true, n, e, σ)) (pc' := 691) (st' := [pvI v305, pvI v302, pvR 10 0 0]) [pvI (ishr x3 3), pvI (σ 129 1)] [pvI v302, pvR 10 0 0] (Or.inr (Or.inl rfl)) dL_act_688 rfl rm_12_59 mtE41 rfl rfl rfl (Nat.le_of_ble_eq_true rfl) (Or.inl (by decide)) k306 rfl ?_
                          refine go_iload_n (pc' := 692) dL_act_691 rfl rfl ?_
                          refine go_iconst (pc' := 693) dL_act_692 rfl (r32_c rfl) ?_
                          refine go_ishr (pc' := 694) dL_act_693 rfl ?_
                          refine go_aload_n (pc' := 695) dL_act_694 rfl rfl (Nat.le_of_ble_eq_true rfl) ?_
                          refine go_iconst (pc' := 696) dL_act_695 rfl (r32_c rfl) ?_
                          obtain ⟨g307, h⟩ := gd h
                          refine go_iald (pc' := 697) dL_act_696 rfl g307 ?_
                          obtain ⟨v308, k309, h⟩ := bd h
                          have k309 := l_L_low (d + 8) n e σ (ishr x3 5) (σ 129 2) _ k309
                          refine go_call (kc := 41) (Mc := mt41) (v := some (pvI v308)) (w' := (true, n, e, σ)) (pc' := 700) (st' := [pvI v308, pvI v305, pvI v302, pvR 10 0 0]) [pvI (ishr x3 5), pvI (σ 129 2)] [pvI v305, pvI v302, pvR 10 0 0] (Or.inr (Or.inl rfl)) dL_act_697 rfl rm_12_59 mtE41 rfl rfl rfl (Nat.le_of_ble_eq_true rfl) (Or.inl (by decide)) k309 rfl ?_
                          refine go_iload_n (pc' := 701) dL_act_700 rfl rfl ?_
                          refine go_bipush (pc' := 703) dL_act_701 rfl (r32_c rfl) (by decide) ?_
                          refine go_ishr (pc' := 704) dL_act_703 rfl ?_
                          refine go_aload_n (pc' := 705) dL_act_704 rfl rfl (Nat.le_of_ble_eq_true rfl) ?_
                          refine go_iconst (pc' := 706) dL_act_705 rfl (r32_c rfl) ?_
                          obtain ⟨g310, h⟩ := gd h
                          refine go_iald (pc' := 707) dL_act_706 rfl g310 ?_
                          refine go_iconst (pc' := 708) dL_act_707 rfl (r32_c rfl) ?_
                          obtain ⟨g311, h⟩ := gd h
                          refine go_iadd (pc' := 709) dL_act_708 rfl g311 ?_
                          obtain ⟨v312, k313, h⟩ := bd h
                          have k313 := l_L_low (d + 8) n e σ (ishr x3 7) ((σ 129 3) + 1) _ k313
                          refine go_call (kc := 41) (Mc := mt41) (v := some (pvI v312)) (w' := (true, n, e, σ)) (pc' := 712) (st' := [pvI v312, pvI v308, pvI v305, pvI v302, pvR 10 0 0]) [pvI (ishr x3 7), pvI ((σ 129 3) + 1)] [pvI v308, pvI v305, pvI v302, pvR 10 0 0] (Or.inr (Or.inl rfl)) dL_act_709 rfl rm_12_59 mtE41 rfl rfl rfl (Nat.le_of_ble_eq_true rfl) (Or.inl (by decide)) k313 rfl ?_
                          refine go_iload_n (pc' := 713) dL_act_712 rfl rfl ?_
                          refine go_iconst (pc' := 714) dL_act_713 rfl (r32_c rfl) ?_
                          refine go_ishr (pc' := 715) dL_act_714 rfl ?_
                          refine go_sipush (pc' := 718) dL_act_715 rfl (r32_c rfl) (by decide) ?_
                          obtain ⟨v314, k315, h⟩ := bd h
                          have k315 := l_L_low (d + 8) n e σ (ishr x3 4) 3000 _ k315
                          refine go_call (kc := 41) (Mc := mt41) (v := some (pvI v314)) (w' := (true, n, e, σ)) (pc' := 721) (st' := [pvI v314, pvI v312, pvI v308, pvI v305, pvI v302, pvR 10 0 0]) [pvI (ishr x3 4), pvI 3000] [pvI v312, pvI v308, pvI v305, pvI v302, pvR 10 0 0] (Or.inr (Or.inl rfl)) dL_act_718 rfl rm_12_59 mtE41 rfl rfl rfl (Nat.le_of_ble_eq_true rfl) (Or.inl (by decide)) k315 rfl ?_
                          refine go_sipush (pc' := 724) dL_act_721 rfl (r32_c rfl) (by decide) ?_
                          obtain ⟨g316, h⟩ := gd h
                          refine go_isub (pc' := 725) dL_act_724 rfl g316 ?_
                          obtain ⟨v317, k318, h⟩ := bd h
                          have k318 := l_L_facts (d + 1) n e σ v302 v305 v308 v312 (v314 - 1000) _ k318
                          refine go_call (kc := 57) (Mc := mt57) (v := some (pvI v317.1)) (w' := (true, n, v317.2.1, v317.2.2)) (pc' := 728) (st' := [pvI v317.1]) [pvR 10 0 0, pvI v302, pvI v305, pvI v308, pvI v312, pvI (v314 - 1000)] [] (Or.inr (Or.inl rfl)) dL_act_725 rfl rm_12_151 mtE57 rfl rfl rfl (Nat.le_of_ble_eq_true rfl) (Or.inl (by decide)) k318 rfl ?_
                          cases h
                          exact go_iret dL_act_728 rfl rfl

