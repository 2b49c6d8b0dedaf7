/-! ===== links: each function is what its bytecode does ===== -/
set_option maxRecDepth 10000 in
theorem l_L_moves (d : Nat) (n e : Nat) (σ : Hp) (x2 : Int) (x3 : Int) (x4 : Int) (x5 : Int) (r : Int × Nat × Hp) (h : f_L_moves σ e x2 x3 x4 x5 = some r) : Ev (d + 8) 132 [pvR 10 0 0, pvI x2, pvI x3, pvI x4, pvI x5] (true, n, e, σ) (0, some (pvI r.1), true, n, r.2.1, r.2.2) := by
  unfold f_L_moves at h
  refine Ev.of mtE132 rfl rfl rfl rfl ?_
  show Go none (Ev (d + 7)) mt132 0 [some (pvR 10 0 0), some (pvI x2), some (pvI x3), some (pvI x4), some (pvI x5), none] [] (true, n, e, σ) (0, some (pvI r.1), true, n, r.2.1, r.2.2)
  refine go_aload_n (pc' := 1) dL_moves_0 rfl rfl (Nat.le_of_ble_eq_true rfl) ?_
  refine go_iload_n (pc' := 2) dL_moves_1 rfl rfl ?_
  refine go_iload_n (pc' := 3) dL_moves_2 rfl rfl ?_
  refine go_iload_n (pc' := 4) dL_moves_3 rfl rfl ?_
  refine go_iload (pc' := 6) dL_moves_4 rfl rfl ?_
  obtain ⟨v1, k2, h⟩ := bd h
  by_cases c3 : v1.1 = 0
  · rw [if_pos c3] at h
    have k2 := l_C_move (d + 0) n e σ x2 x3 x4 x5 _ k2
    rw [c3] at k2
    refine go_call (kc := 133) (Mc := mt133) (v := some (pvI v1.2.1)) (w' := (true, n, e, v1.2.2)) (pc' := 9) (st' := [pvI v1.2.1]) [pvR 10 0 0, pvI x2, pvI x3, pvI x4, pvI x5] [] (Or.inl rfl) dL_moves_6 rfl rm_12_25 mtE133 rfl rfl rfl (Nat.le_of_ble_eq_true rfl) (Or.inr ⟨_, _, 0, rfl, Or.inl rfl⟩) k2 rfl ?_
    cases h
    exact go_iret dL_moves_9 rfl rfl
  · rw [if_neg c3] at h
    by_cases c4 : v1.1 = 1
    · rw [if_pos c4] at h
      have k2 := l_C_move (d + 0) n e σ x2 x3 x4 x5 _ k2
      rw [c4] at k2
      refine go_callH (x := 1) (kc := 133) (Mc := mt133) (h := 10) (i := 5) (ln := 2) (w' := (true, n, (e + 1), v1.2.2)) (pc' := 12) (L' := [some (pvR 10 0 0), some (pvI x2), some (pvI x3), some (pvI x4), some (pvI x5), none]) [pvR 10 0 0, pvI x2, pvI x3, pvI x4, pvI x5] [] (Or.inl rfl) dL_moves_6 rm_12_25 mtE133 rfl rfl rfl (Nat.le_of_ble_eq_true rfl) (Or.inr ⟨_, _, 0, rfl, Or.inl rfl⟩) (by decide +kernel) (by decide) (by decide) (Or.inl ⟨dL_moves_10, rfl⟩) (Nat.le_of_ble_eq_true rfl) rfl rfl k2 ?_
      refine go_bipush (pc' := 14) dL_moves_12 rfl (r32_c rfl) (by decide) ?_
      cases h
      exact go_iret dL_moves_14 rfl rfl
    · rw [if_neg c4] at h
      by_cases c5 : v1.1 = 3
      · rw [if_pos c5] at h
        have k2 := l_C_move (d + 0) n e σ x2 x3 x4 x5 _ k2
        rw [c5] at k2
        refine go_callH (x := 3) (kc := 133) (Mc := mt133) (h := 15) (i := 5) (ln := 2) (w' := (true, n, (e + 1), v1.2.2)) (pc' := 17) (L' := [some (pvR 10 0 0), some (pvI x2), some (pvI x3), some (pvI x4), some (pvI x5), none]) [pvR 10 0 0, pvI x2, pvI x3, pvI x4, pvI x5] [] (Or.inl rfl) dL_moves_6 rm_12_25 mtE133 rfl rfl rfl (Nat.le_of_ble_eq_true rfl) (Or.inr ⟨_, _, 0, rfl, Or.inl rfl⟩) (by decide +kernel) (by decide) (by decide) (Or.inl ⟨dL_moves_15, rfl⟩) (Nat.le_of_ble_eq_true rfl) rfl rfl k2 ?_
        refine go_bipush (pc' := 19) dL_moves_17 rfl (r32_c rfl) (by decide) ?_
        cases h
        exact go_iret dL_moves_19 rfl rfl
      · rw [if_neg c5] at h
        cases h

set_option maxRecDepth 10000 in
theorem l_C_asNow (d : Nat) (n e : Nat) (σ : Hp) (x1 : Int) (r : Int × Hp) (h : f_C_asNow σ x1 = some r) : Ev (d + 2) 136 [pvR 10 0 0, pvI x1] (true, n, e, σ) (0, some (pvI r.1), true, n, e, r.2) := by
  unfold f_C_asNow at h
  refine Ev.of mtE136 rfl rfl rfl rfl ?_
  show Go none (Ev (d + 1)) mt136 0 [some (pvR 10 0 0), some (pvI x1), none] [] (true, n, e, σ) (0, some (pvI r.1), true, n, e, r.2)
  refine go_aload_n (pc' := 1) dX10_asNow_0 rfl rfl (Nat.le_of_ble_eq_true rfl) ?_
  refine go_getR (k' := 7) (L0 := 0) (P' := 1) (pc' := 4) dX10_asNow_1 rfl rf_10_12 rfl rfl (by omega) ?_
  refine go_getZ (pc' := 7) dX10_asNow_4 rfl rf_10_149 rfl ?_
  refine go_istore_n (L' := [some (pvR 10 0 0), some (pvI x1), some (pvI (σ 1 4))]) (pc' := 8) dX10_asNow_7 rfl (Nat.le_of_ble_eq_true rfl) rfl ?_
  refine go_aload_n (pc' := 9) dX10_asNow_8 rfl rfl (Nat.le_of_ble_eq_true rfl) ?_
  refine go_getR (k' := 7) (L0 := 0) (P' := 1) (pc' := 12) dX10_asNow_9 rfl rf_10_12 rfl rfl (by omega) ?_
  refine go_iload_n (pc' := 13) dX10_asNow_12 rfl rfl ?_
  obtain ⟨g1, h⟩ := gd h
  refine go_putZ (pc' := 16) dX10_asNow_13 rfl rf_10_149 rfl g1 ?_
  refine go_aload_n (pc' := 17) dX10_asNow_16 rfl rfl (Nat.le_of_ble_eq_true rfl) ?_
  refine go_getR (k' := 3) (L0 := 0) (P' := 108) (pc' := 20) dX10_asNow_17 rfl rf_10_35 rfl rfl (by omega) ?_
  obtain ⟨v2, k3, h⟩ := bd h
  have k3 := l_K_dropAll (d + 0) n e (hset σ 1 4 x1) _ k3
  refine go_call (kc := 35) (Mc := mt35) (v := none) (w' := (true, n, e, v2)) (pc' := 23) (st' := []) [pvR 3 0 108] [] (Or.inl rfl) dX10_asNow_20 rfl rm_10_105 mtE35 rfl rfl rfl (Nat.le_of_ble_eq_true rfl) (Or.inr ⟨_, _, 108, rfl, Or.inl rfl⟩) k3 rfl ?_
  refine go_iload_n (pc' := 24) dX10_asNow_23 rfl rfl ?_
  obtain ⟨g4, h⟩ := gd h
  cases h
  exact go_zret dX10_asNow_24 rfl g4 rfl

set_option maxRecDepth 10000 in
theorem l_C_totals (d : Nat) (n e : Nat) (σ : Hp) (x1 : Int) (r : Int × Hp) (h : f_C_totals σ x1 = some r) : Ev (d + 2) 137 [pvR 10 0 0, pvI x1] (true, n, e, σ) (0, some (pvI r.1), true, n, e, r.2) := by
  unfold f_C_totals at h
  refine Ev.of mtE137 rfl rfl rfl rfl ?_
  show Go none (Ev (d + 1)) mt137 0 [some (pvR 10 0 0), some (pvI x1), none] [] (true, n, e, σ) (0, some (pvI r.1), true, n, e, r.2)
  refine go_aload_n (pc' := 1) dX10_totals_0 rfl rfl (Nat.le_of_ble_eq_true rfl) ?_
  refine go_getR (k' := 7) (L0 := 0) (P' := 1) (pc' := 4) dX10_totals_1 rfl rf_10_12 rfl rfl (by omega) ?_
  refine go_getZ (pc' := 7) dX10_totals_4 rfl rf_10_190 rfl ?_
  refine go_istore_n (L' := [some (pvR 10 0 0), some (pvI x1), some (pvI (σ 1 5))]) (pc' := 8) dX10_totals_7 rfl (Nat.le_of_ble_eq_true rfl) rfl ?_
  refine go_aload_n (pc' := 9) dX10_totals_8 rfl rfl (Nat.le_of_ble_eq_true rfl) ?_
  refine go_getR (k' := 7) (L0 := 0) (P' := 1) (pc' := 12) dX10_totals_9 rfl rf_10_12 rfl rfl (by omega) ?_
  refine go_iload_n (pc' := 13) dX10_totals_12 rfl rfl ?_
  obtain ⟨g1, h⟩ := gd h
  refine go_putZ (pc' := 16) dX10_totals_13 rfl rf_10_190 rfl g1 ?_
  refine go_aload_n (pc' := 17) dX10_totals_16 rfl rfl (Nat.le_of_ble_eq_true rfl) ?_
  refine go_getR (k' := 3) (L0 := 0) (P' := 108) (pc' := 20) dX10_totals_17 rfl rf_10_35 rfl rfl (by omega) ?_
  obtain ⟨v2, k3, h⟩ := bd h
  have k3 := l_K_dropAll (d + 0) n e (hset σ 1 5 x1) _ k3
  refine go_call (kc := 35) (Mc := mt35) (v := none) (w' := (true, n, e, v2)) (pc' := 23) (st' := []) [pvR 3 0 108] [] (Or.inl rfl) dX10_totals_20 rfl rm_10_105 mtE35 rfl rfl rfl (Nat.le_of_ble_eq_true rfl) (Or.inr ⟨_, _, 108, rfl, Or.inl rfl⟩) k3 rfl ?_
  refine go_iload_n (pc' := 24) dX10_totals_23 rfl rfl ?_
  obtain ⟨g4, h⟩ := gd h
  cases h
  exact go_zret dX10_totals_24 rfl g4 rfl

set_option maxRecDepth 10000 in
theorem l_D_setHidden (d : Nat) (n e : Nat) (σ : Hp) (p : Nat) (x1 : Int) (x2 : Int) (r : Int × Hp) (h : f_D_setHidden σ p x1 x2 = some r) : Ev (d + 4) 139 [pvR 0 0 p, pvI x1, pvI x2] (true, n, e, σ) (0, some (pvI r.1), true, n, e, r.2) := by
  unfold f_D_setHidden at h
  refine Ev.of mtE139 rfl rfl rfl rfl ?_
  show Go none (Ev (d + 3)) mt139 0 [some (pvR 0 0 p), some (pvI x1), some (pvI x2), none] [] (true, n, e, σ) (0, some (pvI r.1), true, n, e, r.2)
  refine go_aload_n (pc' := 1) dX0_setHidden_0 rfl rfl (Nat.le_of_ble_eq_true rfl) ?_
  refine go_iload_n (pc' := 2) dX0_setHidden_1 rfl rfl ?_
  obtain ⟨v1, k2, h⟩ := bd h
  have k2 := l_D_has (d + 2) n e σ p x1 _ k2
  refine go_call (kc := 16) (Mc := mt16) (v := some (pvI v1)) (w' := (true, n, e, σ)) (pc' := 5) (st' := [pvI v1]) [pvR 0 0 p, pvI x1] [] (Or.inl rfl) dX0_setHidden_2 rfl rm_0_65 mtE16 rfl rfl rfl (Nat.le_of_ble_eq_true rfl) (Or.inr ⟨_, _, p, rfl, Or.inl rfl⟩) k2 rfl ?_
  refine go_if_ne (t := 10) (pc' := 8) dX0_setHidden_5 rfl rfl (fun c10 => ?_) (fun c10 => ?_)
  · rw [if_pos (show v1 ≠ 0 from c10)] at h
    refine go_aload_n (pc' := 11) dX0_setHidden_10 rfl rfl (Nat.le_of_ble_eq_true rfl) ?_
    refine go_getR (k' := 14) (L0 := 12) (P' := (p + 10)) (pc' := 14) dX0_setHidden_11 rfl rf_0_38 rfl rfl (by omega) ?_
    refine go_iload_n (pc' := 15) dX0_setHidden_14 rfl rfl ?_
    obtain ⟨g3, h⟩ := gd h
    refine go_zald (pc' := 16) dX0_setHidden_15 rfl g3 ?_
    refine go_istore_n (L' := [some (pvR 0 0 p), some (pvI x1), some (pvI x2), some (pvI (σ (p + 10) x1))]) (pc' := 17) dX0_setHidden_16 rfl (Nat.le_of_ble_eq_true rfl) rfl ?_
    refine go_aload_n (pc' := 18) dX0_setHidden_17 rfl rfl (Nat.le_of_ble_eq_true rfl) ?_
    refine go_getR (k' := 14) (L0 := 12) (P' := (p + 10)) (pc' := 21) dX0_setHidden_18 rfl rf_0_38 rfl rfl (by omega) ?_
    refine go_iload_n (pc' := 22) dX0_setHidden_21 rfl rfl ?_
    refine go_iload_n (pc' := 23) dX0_setHidden_22 rfl rfl ?_
    obtain ⟨g4, h⟩ := gd h
    obtain ⟨g5, h⟩ := gd h
    refine go_zast (pc' := 24) dX0_setHidden_23 rfl g4 g5 ?_
    refine go_aload_n (pc' := 25) dX0_setHidden_24 rfl rfl (Nat.le_of_ble_eq_true rfl) ?_
    obtain ⟨v6, k7, h⟩ := bd h
    have k7 := l_D_settle (d + 0) n e (hset σ (p + 10) x1 x2) p _ k7
    refine go_call (kc := 28) (Mc := mt28) (v := none) (w' := (true, n, e, v6)) (pc' := 28) (st' := []) [pvR 0 0 p] [] (Or.inl rfl) dX0_setHidden_25 rfl rm_0_76 mtE28 rfl rfl rfl (Nat.le_of_ble_eq_true rfl) (Or.inr ⟨_, _, p, rfl, Or.inl rfl⟩) k7 rfl ?_
    refine go_iload_n (pc' := 29) dX0_setHidden_28 rfl rfl ?_
    obtain ⟨g8, h⟩ := gd h
    cases h
    exact go_zret dX0_setHidden_29 rfl g8 rfl
  · rw [if_neg (show ¬ (v1 ≠ 0) from c10)] at h
    refine go_iconst (pc' := 9) dX0_setHidden_8 rfl (r32_c rfl) ?_
    obtain ⟨g9, h⟩ := gd h
    cases h
    exact go_zret dX0_setHidden_9 rfl g9 rfl

set_option maxRecDepth 10000 in
theorem l_C_hide (d : Nat) (n e : Nat) (σ : Hp) (x1 : Int) (x2 : Int) (x3 : Int) (r : Nat × Int × Hp) (h : f_C_hide σ x1 x2 x3 = some r) : Ev (d + 5) 138 [pvR 10 0 0, pvI x1, pvI x2, pvI x3] (true, n, e, σ) (r.1, if r.1 = 0 then some (pvI r.2.1) else none, true, n, e + if r.1 = 0 then 0 else 1, r.2.2) := by
  unfold f_C_hide at h
  refine Ev.of mtE138 rfl rfl rfl rfl ?_
  show Go none (Ev (d + 4)) mt138 0 [some (pvR 10 0 0), some (pvI x1), some (pvI x2), some (pvI x3), none, none] [] (true, n, e, σ) (r.1, if r.1 = 0 then some (pvI r.2.1) else none, true, n, e + if r.1 = 0 then 0 else 1, r.2.2)
  refine go_aload_n (pc' := 1) dX10_hide_0 rfl rfl (Nat.le_of_ble_eq_true rfl) ?_
  refine go_iload_n (pc' := 2) dX10_hide_1 rfl rfl ?_
  obtain ⟨v1, k2, h⟩ := bd h
  by_cases c3 : v1.1 = 0
  · rw [if_pos c3] at h
    have k2 := l_C_existing (d + 2) n e σ x1 _ k2
    rw [c3] at k2
    refine go_call (kc := 13) (Mc := mt13) (v := some (pvR 0 0 v1.2)) (w' := (true, n, e, σ)) (pc' := 5) (st' := [pvR 0 0 v1.2]) [pvR 10 0 0, pvI x1] [] (Or.inl rfl) dX10_hide_2 rfl rm_10_62 mtE13 rfl rfl rfl (Nat.le_of_ble_eq_true rfl) (Or.inr ⟨_, _, 0, rfl, Or.inl rfl⟩) k2 rfl ?_
    refine go_astore (L' := [some (pvR 10 0 0), some (pvI x1), some (pvI x2), some (pvI x3), some (pvR 0 0 v1.2), none]) (pc' := 7) dX10_hide_5 rfl (Nat.le_of_ble_eq_true rfl) (Nat.le_of_ble_eq_true rfl) rfl ?_
    refine go_aload (pc' := 9) dX10_hide_7 rfl rfl (Nat.le_of_ble_eq_true rfl) ?_
    refine go_iload_n (pc' := 10) dX10_hide_9 rfl rfl ?_
    obtain ⟨v4, k5, h⟩ := bd h
    by_cases c6 : v4 = 0
    · rw [if_pos c6] at h
      have k5 := l_C_needMember (d + 2) n e σ v1.2 x2 _ k5
      rw [c6] at k5
      refine go_call (kc := 15) (Mc := mt15) (v := none) (w' := (true, n, e, σ)) (pc' := 13) (st' := []) [pvR 0 0 v1.2, pvI x2] [] (Or.inr (Or.inl rfl)) dX10_hide_10 rfl rm_10_66 mtE15 rfl rfl rfl (Nat.le_of_ble_eq_true rfl) (Or.inl (by decide)) k5 rfl ?_
      refine go_iload_n (pc' := 14) dX10_hide_13 rfl rfl ?_
      refine go_if_ne (t := 27) (pc' := 17) dX10_hide_14 rfl rfl (fun c18 => ?_) (fun c18 => ?_)
      · rw [if_pos (show x2 ≠ 0 from c18)] at h
        refine go_aload (pc' := 29) dX10_hide_27 rfl rfl (Nat.le_of_ble_eq_true rfl) ?_
        refine go_iload_n (pc' := 30) dX10_hide_29 rfl rfl ?_
        obtain ⟨v7, k8, h⟩ := bd h
        have k8 := l_D_isPlain (d + 2) n e σ v1.2 x2 _ k8
        refine go_call (kc := 18) (Mc := mt18) (v := some (pvI v7)) (w' := (true, n, e, σ)) (pc' := 33) (st' := [pvI v7]) [pvR 0 0 v1.2, pvI x2] [] (Or.inl rfl) dX10_hide_30 rfl rm_10_74 mtE18 rfl rfl rfl (Nat.le_of_ble_eq_true rfl) (Or.inr ⟨_, _, v1.2, rfl, Or.inl rfl⟩) k8 rfl ?_
        obtain ⟨v9, k10, h⟩ := bd h
        by_cases c11 : v9 = 0
        · rw [if_pos c11] at h
          have k10 := l_C_need (d + 3) n e σ v7 _ k10
          rw [c11] at k10
          refine go_call (kc := 19) (Mc := mt19) (v := none) (w' := (true, n, e, σ)) (pc' := 36) (st' := []) [pvI v7] [] (Or.inr (Or.inl rfl)) dX10_hide_33 rfl rm_10_84 mtE19 rfl rfl rfl (Nat.le_of_ble_eq_true rfl) (Or.inl (by decide)) k10 rfl ?_
          refine go_aload (pc' := 38) dX10_hide_36 rfl rfl (Nat.le_of_ble_eq_true rfl) ?_
          refine go_iload_n (pc' := 39) dX10_hide_38 rfl rfl ?_
          refine go_iload_n (pc' := 40) dX10_hide_39 rfl rfl ?_
          obtain ⟨v12, k13, h⟩ := bd h
          have k13 := l_D_setHidden (d + 0) n e σ v1.2 x2 x3 _ k13
          refine go_call (kc := 139) (Mc := mt139) (v := some (pvI v12.1)) (w' := (true, n, e, v12.2)) (pc' := 43) (st' := [pvI v12.1]) [pvR 0 0 v1.2, pvI x2, pvI x3] [] (Or.inl rfl) dX10_hide_40 rfl rm_10_186 mtE139 rfl rfl rfl (Nat.le_of_ble_eq_true rfl) (Or.inr ⟨_, _, v1.2, rfl, Or.inl rfl⟩) k13 rfl ?_
          refine go_istore (L' := [some (pvR 10 0 0), some (pvI x1), some (pvI x2), some (pvI x3), some (pvR 0 0 v1.2), some (pvI v12.1)]) (pc' := 45) dX10_hide_43 rfl (Nat.le_of_ble_eq_true rfl) rfl ?_
          refine go_aload_n (pc' := 46) dX10_hide_45 rfl rfl (Nat.le_of_ble_eq_true rfl) ?_
          refine go_getR (k' := 3) (L0 := 0) (P' := 108) (pc' := 49) dX10_hide_46 rfl rf_10_35 rfl rfl (by omega) ?_
          obtain ⟨v14, k15, h⟩ := bd h
          have k15 := l_K_dropAll (d + 3) n e v12.2 _ k15
          refine go_call (kc := 35) (Mc := mt35) (v := none) (w' := (true, n, e, v14)) (pc' := 52) (st' := []) [pvR 3 0 108] [] (Or.inl rfl) dX10_hide_49 rfl rm_10_105 mtE35 rfl rfl rfl (Nat.le_of_ble_eq_true rfl) (Or.inr ⟨_, _, 108, rfl, Or.inl rfl⟩) k15 rfl ?_
          refine go_iload (pc' := 54) dX10_hide_52 rfl rfl ?_
          obtain ⟨g16, h⟩ := gd h
          cases h
          exact go_zret dX10_hide_54 rfl g16 rfl
        · rw [if_neg c11] at h
          obtain ⟨g17, h⟩ := gd h
          cases h
          have k10 := l_C_need (d + 3) n e σ v7 _ k10
          simp only [if_neg c11] at k10 ⊢
          exact go_callX (kc := 19) (Mc := mt19) [pvI v7] [] (Or.inr rfl) dX10_hide_33 rm_10_84 mtE19 rfl rfl rfl (Nat.le_of_ble_eq_true rfl) (Or.inl (by decide)) rfl c11 g17 k10 rfl
      · rw [if_neg (show ¬ (x2 ≠ 0) from c18)] at h
        cases h
        exact go_throw (x := 1) (ic := 112) (ln := 2) (tx := "the member 0 cannot be hidden") dX10_hide_17 rt_10_108 rfl rfl (Nat.le_of_ble_eq_true rfl) dX10_hide_20 (Or.inl ⟨dX10_hide_21, rfl⟩) dX10_hide_23 dX10_hide_26 (Or.inl ⟨rfl, rfl⟩) (by decide +kernel) rfl
    · rw [if_neg c6] at h
      obtain ⟨g19, h⟩ := gd h
      cases h
      have k5 := l_C_needMember (d + 2) n e σ v1.2 x2 _ k5
      simp only [if_neg c6] at k5 ⊢
      exact go_callX (kc := 15) (Mc := mt15) [pvR 0 0 v1.2, pvI x2] [] (Or.inr rfl) dX10_hide_10 rm_10_66 mtE15 rfl rfl rfl (Nat.le_of_ble_eq_true rfl) (Or.inl (by decide)) rfl c6 g19 k5 rfl
  · rw [if_neg c3] at h
    obtain ⟨g20, h⟩ := gd h
    cases h
    have k2 := l_C_existing (d + 2) n e σ x1 _ k2
    simp only [if_neg c3] at k2 ⊢
    exact go_callX (kc := 13) (Mc := mt13) [pvR 10 0 0, pvI x1] [] (Or.inl rfl) dX10_hide_2 rm_10_62 mtE13 rfl rfl rfl (Nat.le_of_ble_eq_true rfl) (Or.inr ⟨_, _, 0, rfl, Or.inl rfl⟩) rfl c3 g20 k2 rfl

set_option maxRecDepth 10000 in
theorem l_L_grow (d : Nat) (n e : Nat) (σ : Hp) (x2 : Int) (r : Int × Hp) (h : f_L_grow σ x2 = some r) : Ev (d + 1) 140 [pvR 12 5 129, pvI x2] (true, n, e, σ) (0, some (pvI r.1), true, n, e, r.2) := by
  unfold f_L_grow at h
  refine Ev.of mtE140 rfl rfl rfl rfl ?_
  show Go none (Ev (d + 0)) mt140 0 [some (pvR 12 5 129), some (pvI x2)] [] (true, n, e, σ) (0, some (pvI r.1), true, n, e, r.2)
  refine go_aload_n (pc' := 1) dL_grow_0 rfl rfl (Nat.le_of_ble_eq_true rfl) ?_
  refine go_iconst (pc' := 2) dL_grow_1 rfl (r32_c rfl) ?_
  refine go_dup2 (pc' := 3) dL_grow_2 rfl (Nat.ne_of_beq_eq_false rfl) (Nat.ne_of_beq_eq_false rfl) ?_
  obtain ⟨g1, h⟩ := gd h
  refine go_iald (pc' := 4) dL_grow_3 rfl g1 ?_
  refine go_iload_n (pc' := 5) dL_grow_4 rfl rfl ?_
  obtain ⟨j2, k3, h⟩ := bd h
  have k3J : Go none (Ev (d + 0)) mt140 13 [some (pvR 12 5 129), some (pvI x2)] [pvI j2, pvI (σ 129 3), pvI 3, pvR 12 5 129] (true, n, e, σ) (0, some (pvI r.1), true, n, e, r.2) := by
    obtain ⟨g4, h⟩ := gd h
    refine go_iadd (pc' := 14) dL_grow_13 rfl g4 ?_
    obtain ⟨g5, h⟩ := gd h
    refine go_iast (pc' := 15) dL_grow_14 rfl g5 ?_
    refine go_iload_n (pc' := 16) dL_grow_15 rfl rfl ?_
    cases h
    exact go_iret dL_grow_16 rfl rfl
  clear h
  have h := k3
  refine go_if_ge (t := 12) (pc' := 8) dL_grow_5 rfl rfl (fun c6 => ?_) (fun c6 => ?_)
  · rw [if_pos (show 0 ≤ x2 from c6)] at h
    refine go_iconst (pc' := 13) dL_grow_12 rfl (r32_c rfl) ?_
    cases h
    exact k3J
  · rw [if_neg (show ¬ (0 ≤ x2) from c6)] at h
    refine go_iconst (pc' := 9) dL_grow_8 rfl (r32_c rfl) ?_
    refine go_goto (t := 13) dL_grow_9 rfl ?_
    cases h
    exact k3J

set_option maxRecDepth 10000 in
theorem l_MS_setLeastDepth (d : Nat) (n e : Nat) (σ : Hp) (x1 : Int) (x2 : Int) (x3 : Int) (r : Int × Hp) (h : f_MS_setLeastDepth σ x1 x2 x3 = some r) : Ev (d + 3) 142 [pvR 4 0 95, pvI x1, pvI x2, pvI x3] (true, n, e, σ) (0, some (pvI r.1), true, n, e, r.2) := by
  unfold f_MS_setLeastDepth at h
  refine Ev.of mtE142 rfl rfl rfl rfl ?_
  show Go none (Ev (d + 2)) mt142 0 [some (pvR 4 0 95), some (pvI x1), some (pvI x2), some (pvI x3), none] [] (true, n, e, σ) (0, some (pvI r.1), true, n, e, r.2)
  refine go_aload_n (pc' := 1) dX4_setLeastDepth_0 rfl rfl (Nat.le_of_ble_eq_true rfl) ?_
  refine go_iload_n (pc' := 2) dX4_setLeastDepth_1 rfl rfl ?_
  refine go_iload_n (pc' := 3) dX4_setLeastDepth_2 rfl rfl ?_
  obtain ⟨v1, k2, h⟩ := bd h
  have k2 := l_MS_leastDepth (d + 0) n e σ x1 x2 _ k2
  refine go_call (kc := 97) (Mc := mt97) (v := some (pvI v1)) (w' := (true, n, e, σ)) (pc' := 6) (st' := [pvI v1]) [pvR 4 0 95, pvI x1, pvI x2] [] (Or.inl rfl) dX4_setLeastDepth_3 rfl rm_4_35 mtE97 rfl rfl rfl (Nat.le_of_ble_eq_true rfl) (Or.inr ⟨_, _, 95, rfl, Or.inl rfl⟩) k2 rfl ?_
  refine go_istore (L' := [some (pvR 4 0 95), some (pvI x1), some (pvI x2), some (pvI x3), some (pvI v1)]) (pc' := 8) dX4_setLeastDepth_6 rfl (Nat.le_of_ble_eq_true rfl) rfl ?_
  refine go_aload_n (pc' := 9) dX4_setLeastDepth_8 rfl rfl (Nat.le_of_ble_eq_true rfl) ?_
  refine go_iload_n (pc' := 10) dX4_setLeastDepth_9 rfl rfl ?_
  obtain ⟨v3, k4, h⟩ := bd h
  have k4 := l_MS_has (d + 1) n e σ x1 _ k4
  refine go_call (kc := 38) (Mc := mt38) (v := some (pvI v3)) (w' := (true, n, e, σ)) (pc' := 13) (st' := [pvI v3]) [pvR 4 0 95, pvI x1] [] (Or.inl rfl) dX4_setLeastDepth_10 rfl rm_4_31 mtE38 rfl rfl rfl (Nat.le_of_ble_eq_true rfl) (Or.inr ⟨_, _, 95, rfl, Or.inl rfl⟩) k4 rfl ?_
  obtain ⟨j5, k6, h⟩ := bd h
  have k6J : Go none (Ev (d + 2)) mt142 36 [some (pvR 4 0 95), some (pvI x1), some (pvI x2), some (pvI x3), some (pvI v1)] [] (true, n, e, j5) (0, some (pvI r.1), true, n, e, r.2) := by
    refine go_iload (pc' := 38) dX4_setLeastDepth_36 rfl rfl ?_
    cases h
    exact go_iret dX4_setLeastDepth_38 rfl rfl
  clear h
  have h := k6
  refine go_if_eq (t := 36) (pc' := 16) dX4_setLeastDepth_13 rfl rfl (fun c12 => ?_) (fun c12 => ?_)
  · rw [if_pos (show v3 = 0 from c12)] at h
    cases h
    exact k6J
  · rw [if_neg (show ¬ (v3 = 0) from c12)] at h
    refine go_iload_n (pc' := 17) dX4_setLeastDepth_16 rfl rfl ?_
    refine go_if_lt (t := 36) (pc' := 20) dX4_setLeastDepth_17 rfl rfl (fun c11 => ?_) (fun c11 => ?_)
    · rw [if_pos (show x2 < 0 from c11)] at h
      cases h
      exact k6J
    · rw [if_neg (show ¬ (x2 < 0) from c11)] at h
      refine go_iload_n (pc' := 21) dX4_setLeastDepth_20 rfl rfl ?_
      refine go_iconst (pc' := 22) dX4_setLeastDepth_21 rfl (r32_c rfl) ?_
      refine go_icmp_ge (t := 36) (pc' := 25) dX4_setLeastDepth_22 rfl rfl (fun c10 => ?_) (fun c10 => ?_)
      · rw [if_pos (show 3 ≤ x2 from c10)] at h
        cases h
        exact k6J
      · rw [if_neg (show ¬ (3 ≤ x2) from c10)] at h
        refine go_aload_n (pc' := 26) dX4_setLeastDepth_25 rfl rfl (Nat.le_of_ble_eq_true rfl) ?_
        refine go_getR (k' := 12) (L0 := 12) (P' := 100) (pc' := 29) dX4_setLeastDepth_26 rfl rf_4_24 rfl rfl (by omega) ?_
        refine go_iload_n (pc' := 30) dX4_setLeastDepth_29 rfl rfl ?_
        refine go_iconst (pc' := 31) dX4_setLeastDepth_30 rfl (r32_c rfl) ?_
        obtain ⟨g7, h⟩ := gd h
        refine go_imul (pc' := 32) dX4_setLeastDepth_31 rfl g7 ?_
        refine go_iload_n (pc' := 33) dX4_setLeastDepth_32 rfl rfl ?_
        obtain ⟨g8, h⟩ := gd h
        refine go_iadd (pc' := 34) dX4_setLeastDepth_33 rfl g8 ?_
        refine go_iload_n (pc' := 35) dX4_setLeastDepth_34 rfl rfl ?_
        obtain ⟨g9, h⟩ := gd h
        refine go_iast (pc' := 36) dX4_setLeastDepth_35 rfl g9 ?_
        cases h
        exact k6J

set_option maxRecDepth 10000 in
theorem l_C_from (d : Nat) (n e : Nat) (σ : Hp) (x1 : Int) (x2 : Int) (x3 : Int) (r : Nat × Int × Hp) (h : f_C_from σ x1 x2 x3 = some r) : Ev (d + 4) 141 [pvR 10 0 0, pvI x1, pvI x2, pvI x3] (true, n, e, σ) (r.1, if r.1 = 0 then some (pvI r.2.1) else none, true, n, e + if r.1 = 0 then 0 else 1, r.2.2) := by
  unfold f_C_from at h
  refine Ev.of mtE141 rfl rfl rfl rfl ?_
  show Go none (Ev (d + 3)) mt141 0 [some (pvR 10 0 0), some (pvI x1), some (pvI x2), some (pvI x3), none] [] (true, n, e, σ) (r.1, if r.1 = 0 then some (pvI r.2.1) else none, true, n, e + if r.1 = 0 then 0 else 1, r.2.2)
  refine go_aload_n (pc' := 1) dX10_from_0 rfl rfl (Nat.le_of_ble_eq_true rfl) ?_
  refine go_iload_n (pc' := 2) dX10_from_1 rfl rfl ?_
  obtain ⟨v1, k2, h⟩ := bd h
  by_cases c3 : v1 = 0
  · rw [if_pos c3] at h
    have k2 := l_C_needMeasure (d + 1) n e σ x1 _ k2
    rw [c3] at k2
    refine go_call (kc := 37) (Mc := mt37) (v := none) (w' := (true, n, e, σ)) (pc' := 5) (st' := []) [pvR 10 0 0, pvI x1] [] (Or.inl rfl) dX10_from_2 rfl rm_10_193 mtE37 rfl rfl rfl (Nat.le_of_ble_eq_true rfl) (Or.inr ⟨_, _, 0, rfl, Or.inl rfl⟩) k2 rfl ?_
    refine go_aload_n (pc' := 6) dX10_from_5 rfl rfl (Nat.le_of_ble_eq_true rfl) ?_
    refine go_iload_n (pc' := 7) dX10_from_6 rfl rfl ?_
    obtain ⟨v4, k5, h⟩ := bd h
    by_cases c6 : v4.1 = 0
    · rw [if_pos c6] at h
      have k5 := l_C_existing (d + 1) n e σ x2 _ k5
      rw [c6] at k5
      refine go_call (kc := 13) (Mc := mt13) (v := some (pvR 0 0 v4.2)) (w' := (true, n, e, σ)) (pc' := 10) (st' := [pvR 0 0 v4.2]) [pvR 10 0 0, pvI x2] [] (Or.inl rfl) dX10_from_7 rfl rm_10_62 mtE13 rfl rfl rfl (Nat.le_of_ble_eq_true rfl) (Or.inr ⟨_, _, 0, rfl, Or.inl rfl⟩) k5 rfl ?_
      refine go_pop (pc' := 11) dX10_from_10 rfl (Nat.ne_of_beq_eq_false rfl) ?_
      refine go_iload_n (pc' := 12) dX10_from_11 rfl rfl ?_
      refine go_iconst (pc' := 13) dX10_from_12 rfl (r32_c rfl) ?_
      refine go_bipush (pc' := 15) dX10_from_13 rfl (r32_c rfl) (by decide) ?_
      obtain ⟨v7, k8, h⟩ := bd h
      by_cases c9 : v7 = 0
      · rw [if_pos c9] at h
        have k8 := l_C_needRange (d + 2) n e σ x3 0 11 _ k8
        rw [c9] at k8
        refine go_call (kc := 17) (Mc := mt17) (v := none) (w' := (true, n, e, σ)) (pc' := 18) (st' := []) [pvI x3, pvI 0, pvI 11] [] (Or.inr (Or.inl rfl)) dX10_from_15 rfl rm_10_70 mtE17 rfl rfl rfl (Nat.le_of_ble_eq_true rfl) (Or.inl (by decide)) k8 rfl ?_
        refine go_aload_n (pc' := 19) dX10_from_18 rfl rfl (Nat.le_of_ble_eq_true rfl) ?_
        refine go_getR (k' := 4) (L0 := 0) (P' := 95) (pc' := 22) dX10_from_19 rfl rf_10_21 rfl rfl (by omega) ?_
        refine go_iload_n (pc' := 23) dX10_from_22 rfl rfl ?_
        refine go_iload_n (pc' := 24) dX10_from_23 rfl rfl ?_
        refine go_iload_n (pc' := 25) dX10_from_24 rfl rfl ?_
        obtain ⟨v10, k11, h⟩ := bd h
        have k11 := l_MS_setLeastDepth (d + 0) n e σ x1 x2 x3 _ k11
        refine go_call (kc := 142) (Mc := mt142) (v := some (pvI v10.1)) (w' := (true, n, e, v10.2)) (pc' := 28) (st' := [pvI v10.1]) [pvR 4 0 95, pvI x1, pvI x2, pvI x3] [] (Or.inl rfl) dX10_from_25 rfl rm_10_202 mtE142 rfl rfl rfl (Nat.le_of_ble_eq_true rfl) (Or.inr ⟨_, _, 95, rfl, Or.inl rfl⟩) k11 rfl ?_
        refine go_istore (L' := [some (pvR 10 0 0), some (pvI x1), some (pvI x2), some (pvI x3), some (pvI v10.1)]) (pc' := 30) dX10_from_28 rfl (Nat.le_of_ble_eq_true rfl) rfl ?_
        refine go_aload_n (pc' := 31) dX10_from_30 rfl rfl (Nat.le_of_ble_eq_true rfl) ?_
        refine go_getR (k' := 3) (L0 := 0) (P' := 108) (pc' := 34) dX10_from_31 rfl rf_10_35 rfl rfl (by omega) ?_
        obtain ⟨v12, k13, h⟩ := bd h
        have k13 := l_K_dropAll (d + 2) n e v10.2 _ k13
        refine go_call (kc := 35) (Mc := mt35) (v := none) (w' := (true, n, e, v12)) (pc' := 37) (st' := []) [pvR 3 0 108] [] (Or.inl rfl) dX10_from_34 rfl rm_10_105 mtE35 rfl rfl rfl (Nat.le_of_ble_eq_true rfl) (Or.inr ⟨_, _, 108, rfl, Or.inl rfl⟩) k13 rfl ?_
        refine go_iload (pc' := 39) dX10_from_37 rfl rfl ?_
        cases h
        exact go_iret dX10_from_39 rfl rfl
      · rw [if_neg c9] at h
        obtain ⟨g14, h⟩ := gd h
        cases h
        have k8 := l_C_needRange (d + 2) n e σ x3 0 11 _ k8
        simp only [if_neg c9] at k8 ⊢
        exact go_callX (kc := 17) (Mc := mt17) [pvI x3, pvI 0, pvI 11] [] (Or.inr rfl) dX10_from_15 rm_10_70 mtE17 rfl rfl rfl (Nat.le_of_ble_eq_true rfl) (Or.inl (by decide)) rfl c9 g14 k8 rfl
    · rw [if_neg c6] at h
      obtain ⟨g15, h⟩ := gd h
      cases h
      have k5 := l_C_existing (d + 1) n e σ x2 _ k5
      simp only [if_neg c6] at k5 ⊢
      exact go_callX (kc := 13) (Mc := mt13) [pvR 10 0 0, pvI x2] [] (Or.inl rfl) dX10_from_7 rm_10_62 mtE13 rfl rfl rfl (Nat.le_of_ble_eq_true rfl) (Or.inr ⟨_, _, 0, rfl, Or.inl rfl⟩) rfl c6 g15 k5 rfl
  · rw [if_neg c3] at h
    obtain ⟨g16, h⟩ := gd h
    cases h
    have k2 := l_C_needMeasure (d + 1) n e σ x1 _ k2
    simp only [if_neg c3] at k2 ⊢
    exact go_callX (kc := 37) (Mc := mt37) [pvR 10 0 0, pvI x1] [] (Or.inl rfl) dX10_from_2 rm_10_193 mtE37 rfl rfl rfl (Nat.le_of_ble_eq_true rfl) (Or.inr ⟨_, _, 0, rfl, Or.inl rfl⟩) rfl c3 g16 k2 rfl

set_option maxRecDepth 10000 in
theorem l_R_allWeighOne_2 (d : Nat) (n : Nat) (e : Nat) (σ : Hp) : ∀ (F : Nat) (y1 : Int) (r : Int), f_R_allWeighOne_2 σ F y1 = some r → Go none (Ev (d + 0)) mt145 2 [some (pvR 6 0 116), some (pvI y1)] [] (true, n, e, σ) (0, some (pvI r), true, n, e, σ) := by
  intro F
  induction F with
  | zero =>
    intro _ _ h
    rw [f_R_allWeighOne_2] at h
    cases h
  | succ F ih =>
    intro y1 r h
    rw [f_R_allWeighOne_2] at h
    refine go_iload_n (pc' := 3) dX6_allWeighOne_2 rfl rfl ?_
    refine go_aload_n (pc' := 4) dX6_allWeighOne_3 rfl rfl (Nat.le_of_ble_eq_true rfl) ?_
    refine go_getI (pc' := 7) dX6_allWeighOne_4 rfl rf_6_202 rfl ?_
    refine go_icmp_ge (t := 28) (pc' := 10) dX6_allWeighOne_7 rfl rfl (fun c7 => ?_) (fun c7 => ?_)
    · rw [if_pos (show (σ 116 9) ≤ y1 from c7)] at h
      refine go_iconst (pc' := 29) dX6_allWeighOne_28 rfl (r32_c rfl) ?_
      obtain ⟨g2, h⟩ := gd h
      cases h
      exact go_zret dX6_allWeighOne_29 rfl g2 rfl
    · rw [if_neg (show ¬ ((σ 116 9) ≤ y1) from c7)] at h
      refine go_aload_n (pc' := 11) dX6_allWeighOne_10 rfl rfl (Nat.le_of_ble_eq_true rfl) ?_
      refine go_getR (k' := 12) (L0 := 50) (P' := 122) (pc' := 14) dX6_allWeighOne_11 rfl rf_6_28 rfl rfl (by omega) ?_
      refine go_iload_n (pc' := 15) dX6_allWeighOne_14 rfl rfl ?_
      obtain ⟨g3, h⟩ := gd h
      refine go_iald (pc' := 16) dX6_allWeighOne_15 rfl g3 ?_
      refine go_iconst (pc' := 17) dX6_allWeighOne_16 rfl (r32_c rfl) ?_
      refine go_icmp_eq (t := 22) (pc' := 20) dX6_allWeighOne_17 rfl rfl (fun c6 => ?_) (fun c6 => ?_)
      · rw [if_pos (show (σ 122 y1) = 1 from c6)] at h
        obtain ⟨g4, h⟩ := gd h
        refine go_iinc (L' := [some (pvR 6 0 116), some (pvI (y1 + 1))]) (pc' := 25) dX6_allWeighOne_22 rfl rfl g4 rfl ?_
        refine go_goto (t := 2) dX6_allWeighOne_25 rfl ?_
        exact ih (y1 + 1) _ h
      · rw [if_neg (show ¬ ((σ 122 y1) = 1) from c6)] at h
        refine go_iconst (pc' := 21) dX6_allWeighOne_20 rfl (r32_c rfl) ?_
        obtain ⟨g5, h⟩ := gd h
        cases h
        exact go_zret dX6_allWeighOne_21 rfl g5 rfl

set_option maxRecDepth 10000 in
theorem l_R_allWeighOne (d : Nat) (n e : Nat) (σ : Hp) (r : Int) (h : f_R_allWeighOne σ = some r) : Ev (d + 1) 145 [pvR 6 0 116] (true, n, e, σ) (0, some (pvI r), true, n, e, σ) := by
  unfold f_R_allWeighOne at h
  refine Ev.of mtE145 rfl rfl rfl rfl ?_
  show Go none (Ev (d + 0)) mt145 0 [some (pvR 6 0 116), none] [] (true, n, e, σ) (0, some (pvI r), true, n, e, σ)
  refine go_iconst (pc' := 1) dX6_allWeighOne_0 rfl (r32_c rfl) ?_
  refine go_istore_n (L' := [some (pvR 6 0 116), some (pvI 0)]) (pc' := 2) dX6_allWeighOne_1 rfl (Nat.le_of_ble_eq_true rfl) rfl ?_
  exact l_R_allWeighOne_2 d n e σ zFuel 0 _ h

set_option maxRecDepth 10000 in
theorem l_SP_start (d : Nat) (n e : Nat) (σ : Hp) (x1 : Int) (x2 : Int) (r : Hp) (h : f_SP_start σ x1 x2 = some r) : Ev (d + 1) 146 [pvR 8 0 112, pvI x1, pvL x2] (true, n, e, σ) (0, none, true, n, e, r) := by
  unfold f_SP_start at h
  refine Ev.of mtE146 rfl rfl rfl rfl ?_
  show Go none (Ev (d + 0)) mt146 0 [some (pvR 8 0 112), some (pvI x1), some (pvL x2), none] [] (true, n, e, σ) (0, none, true, n, e, r)
  refine go_aload_n (pc' := 1) dX8_start_0 rfl rfl (Nat.le_of_ble_eq_true rfl) ?_
  refine go_iload_n (pc' := 2) dX8_start_1 rfl rfl ?_
  refine go_bipush (pc' := 4) dX8_start_2 rfl (r32_c rfl) (by decide) ?_
  refine go_imin (pc' := 7) dX8_start_4 rfl rm_8_21 (Nat.le_of_ble_eq_true rfl) ?_
  refine go_putI (pc' := 10) dX8_start_7 rfl rf_8_27 rfl ?_
  refine go_aload_n (pc' := 11) dX8_start_10 rfl rfl (Nat.le_of_ble_eq_true rfl) ?_
  refine go_lload_n (pc' := 12) dX8_start_11 rfl rfl ?_
  refine go_putL (pc' := 15) dX8_start_12 rfl rf_8_31 rfl ?_
  cases h
  exact go_vret dX8_start_15 rfl rfl

set_option maxRecDepth 10000 in
theorem l_R_rowAt (d : Nat) (n e : Nat) (σ : Hp) (x1 : Int) (r : Int) (h : f_R_rowAt σ x1 = some r) : Ev (d + 1) 147 [pvR 6 0 116, pvI x1] (true, n, e, σ) (0, some (pvI r), true, n, e, σ) := by
  unfold f_R_rowAt at h
  refine Ev.of mtE147 rfl rfl rfl rfl ?_
  show Go none (Ev (d + 0)) mt147 0 [some (pvR 6 0 116), some (pvI x1)] [] (true, n, e, σ) (0, some (pvI r), true, n, e, σ)
  refine go_iload_n (pc' := 1) dX6_rowAt_0 rfl rfl ?_
  obtain ⟨j1, k2, h⟩ := bd h
  have k2J : Go none (Ev (d + 0)) mt147 28 [some (pvR 6 0 116), some (pvI x1)] [pvI j1] (true, n, e, σ) (0, some (pvI r), true, n, e, σ) := by
    cases h
    exact go_iret dX6_rowAt_28 rfl rfl
  clear h
  have h := k2
  refine go_if_lt (t := 27) (pc' := 4) dX6_rowAt_1 rfl rfl (fun c6 => ?_) (fun c6 => ?_)
  · rw [if_pos (show x1 < 0 from c6)] at h
    refine go_iconst (pc' := 28) dX6_rowAt_27 rfl (r32_c rfl) ?_
    cases h
    exact k2J
  · rw [if_neg (show ¬ (x1 < 0) from c6)] at h
    refine go_iload_n (pc' := 5) dX6_rowAt_4 rfl rfl ?_
    refine go_aload_n (pc' := 6) dX6_rowAt_5 rfl rfl (Nat.le_of_ble_eq_true rfl) ?_
    refine go_getI (pc' := 9) dX6_rowAt_6 rfl rf_6_202 rfl ?_
    refine go_icmp_ge (t := 27) (pc' := 12) dX6_rowAt_9 rfl rfl (fun c5 => ?_) (fun c5 => ?_)
    · rw [if_pos (show (σ 116 9) ≤ x1 from c5)] at h
      refine go_iconst (pc' := 28) dX6_rowAt_27 rfl (r32_c rfl) ?_
      cases h
      exact k2J
    · rw [if_neg (show ¬ ((σ 116 9) ≤ x1) from c5)] at h
      refine go_iload_n (pc' := 13) dX6_rowAt_12 rfl rfl ?_
      refine go_bipush (pc' := 15) dX6_rowAt_13 rfl (r32_c rfl) (by decide) ?_
      refine go_icmp_ge (t := 27) (pc' := 18) dX6_rowAt_15 rfl rfl (fun c4 => ?_) (fun c4 => ?_)
      · rw [if_pos (show 50 ≤ x1 from c4)] at h
        refine go_iconst (pc' := 28) dX6_rowAt_27 rfl (r32_c rfl) ?_
        cases h
        exact k2J
      · rw [if_neg (show ¬ (50 ≤ x1) from c4)] at h
        refine go_aload_n (pc' := 19) dX6_rowAt_18 rfl rfl (Nat.le_of_ble_eq_true rfl) ?_
        refine go_getR (k' := 12) (L0 := 50) (P' := 121) (pc' := 22) dX6_rowAt_19 rfl rf_6_25 rfl rfl (by omega) ?_
        refine go_iload_n (pc' := 23) dX6_rowAt_22 rfl rfl ?_
        obtain ⟨g3, h⟩ := gd h
        refine go_iald (pc' := 24) dX6_rowAt_23 rfl g3 ?_
        refine go_goto (t := 28) dX6_rowAt_24 rfl ?_
        cases h
        exact k2J

set_option maxRecDepth 10000 in
theorem l_SP_own (d : Nat) (n e : Nat) (σ : Hp) (x1 : Int) (x2 : Int) (r : Hp) (h : f_SP_own σ x1 x2 = some r) : Ev (d + 1) 148 [pvR 8 0 112, pvI x1, pvL x2] (true, n, e, σ) (0, none, true, n, e, r) := by
  unfold f_SP_own at h
  refine Ev.of mtE148 rfl rfl rfl rfl ?_
  show Go none (Ev (d + 0)) mt148 0 [some (pvR 8 0 112), some (pvI x1), some (pvL x2), none] [] (true, n, e, σ) (0, none, true, n, e, r)
  refine go_iload_n (pc' := 1) dX8_own_0 rfl rfl ?_
  obtain ⟨j1, k2, h⟩ := bd h
  have k2J : Go none (Ev (d + 0)) mt148 19 [some (pvR 8 0 112), some (pvI x1), some (pvL x2), none] [] (true, n, e, j1) (0, none, true, n, e, r) := by
    cases h
    exact go_vret dX8_own_19 rfl rfl
  clear h
  have h := k2
  refine go_if_lt (t := 19) (pc' := 4) dX8_own_1 rfl rfl (fun c5 => ?_) (fun c5 => ?_)
  · rw [if_pos (show x1 < 0 from c5)] at h
    cases h
    exact k2J
  · rw [if_neg (show ¬ (x1 < 0) from c5)] at h
    refine go_iload_n (pc' := 5) dX8_own_4 rfl rfl ?_
    refine go_aload_n (pc' := 6) dX8_own_5 rfl rfl (Nat.le_of_ble_eq_true rfl) ?_
    refine go_getI (pc' := 9) dX8_own_6 rfl rf_8_27 rfl ?_
    refine go_icmp_ge (t := 19) (pc' := 12) dX8_own_9 rfl rfl (fun c4 => ?_) (fun c4 => ?_)
    · rw [if_pos (show (σ 112 0) ≤ x1 from c4)] at h
      cases h
      exact k2J
    · rw [if_neg (show ¬ ((σ 112 0) ≤ x1) from c4)] at h
      refine go_aload_n (pc' := 13) dX8_own_12 rfl rfl (Nat.le_of_ble_eq_true rfl) ?_
      refine go_getR (k' := 13) (L0 := 50) (P' := 113) (pc' := 16) dX8_own_13 rfl rf_8_9 rfl rfl (by omega) ?_
      refine go_iload_n (pc' := 17) dX8_own_16 rfl rfl ?_
      refine go_lload_n (pc' := 18) dX8_own_17 rfl rfl ?_
      obtain ⟨g3, h⟩ := gd h
      refine go_last (pc' := 19) dX8_own_18 rfl g3 ?_
      cases h
      exact k2J

set_option maxRecDepth 10000 in
theorem l_SP_leaveRest_2 (d : Nat) (n : Nat) (e : Nat) (x1 : Int) {out : Out} : ∀ (F : Nat) (y1 : Int) (σ2 : Hp) (j13 : Int × Hp), f_SP_leaveRest_2 x1 F y1 σ2 = some j13 → Go none (Ev (d + 0)) mt150 48 [some (pvR 8 0 112), some (pvL x1), none, some (pvI j13.1)] [] (true, n, e, j13.2) out → Go none (Ev (d + 0)) mt150 2 [some (pvR 8 0 112), some (pvL x1), none, some (pvI y1)] [] (true, n, e, σ2) out := by
  intro F
  induction F with
  | zero =>
    intro _ _ _ h
    intro _
    rw [f_SP_leaveRest_2] at h
    cases h
  | succ F ih =>
    intro y1 σ2 j13 h hx
    rw [f_SP_leaveRest_2] at h
    refine go_iload_n (pc' := 3) dX8_leaveRest_2 rfl rfl ?_
    refine go_aload_n (pc' := 4) dX8_leaveRest_3 rfl rfl (Nat.le_of_ble_eq_true rfl) ?_
    refine go_getI (pc' := 7) dX8_leaveRest_4 rfl rf_8_27 rfl ?_
    refine go_icmp_ge (t := 48) (pc' := 10) dX8_leaveRest_7 rfl rfl (fun c12 => ?_) (fun c12 => ?_)
    · rw [if_pos (show (σ2 112 0) ≤ y1 from c12)] at h
      cases h
      exact hx
    · rw [if_neg (show ¬ ((σ2 112 0) ≤ y1) from c12)] at h
      refine go_aload_n (pc' := 11) dX8_leaveRest_10 rfl rfl (Nat.le_of_ble_eq_true rfl) ?_
      refine go_getR (k' := 13) (L0 := 50) (P' := 114) (pc' := 14) dX8_leaveRest_11 rfl rf_8_15 rfl rfl (by omega) ?_
      refine go_iload_n (pc' := 15) dX8_leaveRest_14 rfl rfl ?_
      refine go_iload_n (pc' := 16) dX8_leaveRest_15 rfl rfl ?_
      obtain ⟨j3, k4, h⟩ := bd h
      have k4J : Go none (Ev (d + 0)) mt150 41 [some (pvR 8 0 112), some (pvL x1), none, some (pvI y1)] [pvL j3, pvI y1, pvR 13 50 114] (true, n, e, σ2) out := by
        obtain ⟨g9, h⟩ := gd h
        refine go_last (pc' := 42) dX8_leaveRest_41 rfl g9 ?_
        obtain ⟨g10, h⟩ := gd h
        refine go_iinc (L' := [some (pvR 8 0 112), some (pvL x1), none, some (pvI (y1 + 1))]) (pc' := 45) dX8_leaveRest_42 rfl rfl g10 rfl ?_
        refine go_goto (t := 2) dX8_leaveRest_45 rfl ?_
        exact ih (y1 + 1) (hset σ2 114 y1 j3) _ h hx
      clear h
      have h := k4
      refine go_if_ne (t := 35) (pc' := 19) dX8_leaveRest_16 rfl rfl (fun c11 => ?_) (fun c11 => ?_)
      · rw [if_pos (show y1 ≠ 0 from c11)] at h
        refine go_aload_n (pc' := 36) dX8_leaveRest_35 rfl rfl (Nat.le_of_ble_eq_true rfl) ?_
        refine go_getR (k' := 13) (L0 := 50) (P' := 113) (pc' := 39) dX8_leaveRest_36 rfl rf_8_9 rfl rfl (by omega) ?_
        refine go_iload_n (pc' := 40) dX8_leaveRest_39 rfl rfl ?_
        obtain ⟨g5, h⟩ := gd h
        refine go_lald (pc' := 41) dX8_leaveRest_40 rfl g5 ?_
        cases h
        exact k4J
      · rw [if_neg (show ¬ (y1 ≠ 0) from c11)] at h
        refine go_aload_n (pc' := 20) dX8_leaveRest_19 rfl rfl (Nat.le_of_ble_eq_true rfl) ?_
        refine go_getL (pc' := 23) dX8_leaveRest_20 rfl rf_8_31 rfl ?_
        refine go_lload_n (pc' := 24) dX8_leaveRest_23 rfl rfl ?_
        refine go_aload_n (pc' := 25) dX8_leaveRest_24 rfl rfl (Nat.le_of_ble_eq_true rfl) ?_
        refine go_getR (k' := 13) (L0 := 50) (P' := 113) (pc' := 28) dX8_leaveRest_25 rfl rf_8_9 rfl rfl (by omega) ?_
        refine go_iconst (pc' := 29) dX8_leaveRest_28 rfl (r32_c rfl) ?_
        obtain ⟨g6, h⟩ := gd h
        refine go_lald (pc' := 30) dX8_leaveRest_29 rfl g6 ?_
        obtain ⟨g7, h⟩ := gd h
        refine go_lsub (pc' := 31) dX8_leaveRest_30 rfl g7 ?_
        obtain ⟨g8, h⟩ := gd h
        refine go_lsub (pc' := 32) dX8_leaveRest_31 rfl g8 ?_
        refine go_goto (t := 41) dX8_leaveRest_32 rfl ?_
        cases h
        exact k4J

set_option maxRecDepth 10000 in
theorem l_SP_leaveRest (d : Nat) (n e : Nat) (σ : Hp) (x1 : Int) (r : Hp) (h : f_SP_leaveRest σ x1 = some r) : Ev (d + 1) 150 [pvR 8 0 112, pvL x1] (true, n, e, σ) (0, none, true, n, e, r) := by
  unfold f_SP_leaveRest at h
  refine Ev.of mtE150 rfl rfl rfl rfl ?_
  show Go none (Ev (d + 0)) mt150 0 [some (pvR 8 0 112), some (pvL x1), none, none] [] (true, n, e, σ) (0, none, true, n, e, r)
  refine go_iconst (pc' := 1) dX8_leaveRest_0 rfl (r32_c rfl) ?_
  refine go_istore_n (L' := [some (pvR 8 0 112), some (pvL x1), none, some (pvI 0)]) (pc' := 2) dX8_leaveRest_1 rfl (Nat.le_of_ble_eq_true rfl) rfl ?_
  obtain ⟨j14, k15, h⟩ := bd h
  refine l_SP_leaveRest_2 d n e x1 zFuel 0 σ _ k15 ?_
  cases h
  exact go_vret dX8_leaveRest_48 rfl rfl

set_option maxRecDepth 10000 in
theorem l_SP_greatestRemainder_4 (d : Nat) (n : Nat) (e : Nat) (σ : Hp) {out : Out} : ∀ (F : Nat) (y1 : Int) (y2 : Int) (j10 : Int × Int), f_SP_greatestRemainder_4 σ F y1 y2 = some j10 → Go none (Ev (d + 0)) mt152 36 [some (pvR 8 0 112), some (pvI j10.1), some (pvI j10.2)] [] (true, n, e, σ) out → Go none (Ev (d + 0)) mt152 4 [some (pvR 8 0 112), some (pvI y1), some (pvI y2)] [] (true, n, e, σ) out := by
  intro F
  induction F with
  | zero =>
    intro _ _ _ h
    intro _
    rw [f_SP_greatestRemainder_4] at h
    cases h
  | succ F ih =>
    intro y1 y2 j10 h hx
    rw [f_SP_greatestRemainder_4] at h
    refine go_iload_n (pc' := 5) dX8_greatestRemainder_4 rfl rfl ?_
    refine go_aload_n (pc' := 6) dX8_greatestRemainder_5 rfl rfl (Nat.le_of_ble_eq_true rfl) ?_
    refine go_getI (pc' := 9) dX8_greatestRemainder_6 rfl rf_8_27 rfl ?_
    refine go_icmp_ge (t := 36) (pc' := 12) dX8_greatestRemainder_9 rfl rfl (fun c9 => ?_) (fun c9 => ?_)
    · rw [if_pos (show (σ 112 0) ≤ y2 from c9)] at h
      cases h
      exact hx
    · rw [if_neg (show ¬ ((σ 112 0) ≤ y2) from c9)] at h
      refine go_aload_n (pc' := 13) dX8_greatestRemainder_12 rfl rfl (Nat.le_of_ble_eq_true rfl) ?_
      refine go_getR (k' := 13) (L0 := 50) (P' := 115) (pc' := 16) dX8_greatestRemainder_13 rfl rf_8_18 rfl rfl (by omega) ?_
      refine go_iload_n (pc' := 17) dX8_greatestRemainder_16 rfl rfl ?_
      obtain ⟨g3, h⟩ := gd h
      refine go_lald (pc' := 18) dX8_greatestRemainder_17 rfl g3 ?_
      refine go_aload_n (pc' := 19) dX8_greatestRemainder_18 rfl rfl (Nat.le_of_ble_eq_true rfl) ?_
      refine go_getR (k' := 13) (L0 := 50) (P' := 115) (pc' := 22) dX8_greatestRemainder_19 rfl rf_8_18 rfl rfl (by omega) ?_
      refine go_iload_n (pc' := 23) dX8_greatestRemainder_22 rfl rfl ?_
      obtain ⟨g4, h⟩ := gd h
      refine go_lald (pc' := 24) dX8_greatestRemainder_23 rfl g4 ?_
      refine go_lcmp (pc' := 25) dX8_greatestRemainder_24 rfl ?_
      obtain ⟨j5, k6, h⟩ := bd h
      have k6J : Go none (Ev (d + 0)) mt152 30 [some (pvR 8 0 112), some (pvI j5), some (pvI y2)] [] (true, n, e, σ) out := by
        obtain ⟨g7, h⟩ := gd h
        refine go_iinc (L' := [some (pvR 8 0 112), some (pvI j5), some (pvI (y2 + 1))]) (pc' := 33) dX8_greatestRemainder_30 rfl rfl g7 rfl ?_
        refine go_goto (t := 4) dX8_greatestRemainder_33 rfl ?_
        exact ih j5 (y2 + 1) _ h hx
      clear h
      have h := k6
      refine go_if_le (t := 30) (pc' := 28) dX8_greatestRemainder_25 rfl rfl (fun c8 => ?_) (fun c8 => ?_)
      · rw [if_pos (show (lcm (σ 115 y2) (σ 115 y1)) ≤ 0 from c8)] at h
        cases h
        exact k6J
      · rw [if_neg (show ¬ ((lcm (σ 115 y2) (σ 115 y1)) ≤ 0) from c8)] at h
        refine go_iload_n (pc' := 29) dX8_greatestRemainder_28 rfl rfl ?_
        refine go_istore_n (L' := [some (pvR 8 0 112), some (pvI y2), some (pvI y2)]) (pc' := 30) dX8_greatestRemainder_29 rfl (Nat.le_of_ble_eq_true rfl) rfl ?_
        cases h
        exact k6J

set_option maxRecDepth 10000 in
theorem l_SP_greatestRemainder (d : Nat) (n e : Nat) (σ : Hp) (r : Int) (h : f_SP_greatestRemainder σ = some r) : Ev (d + 1) 152 [pvR 8 0 112] (true, n, e, σ) (0, some (pvI r), true, n, e, σ) := by
  unfold f_SP_greatestRemainder at h
  refine Ev.of mtE152 rfl rfl rfl rfl ?_
  show Go none (Ev (d + 0)) mt152 0 [some (pvR 8 0 112), none, none] [] (true, n, e, σ) (0, some (pvI r), true, n, e, σ)
  refine go_iconst (pc' := 1) dX8_greatestRemainder_0 rfl (r32_c rfl) ?_
  refine go_istore_n (L' := [some (pvR 8 0 112), some (pvI 0), none]) (pc' := 2) dX8_greatestRemainder_1 rfl (Nat.le_of_ble_eq_true rfl) rfl ?_
  refine go_iconst (pc' := 3) dX8_greatestRemainder_2 rfl (r32_c rfl) ?_
  refine go_istore_n (L' := [some (pvR 8 0 112), some (pvI 0), some (pvI 1)]) (pc' := 4) dX8_greatestRemainder_3 rfl (Nat.le_of_ble_eq_true rfl) rfl ?_
  obtain ⟨j11, k12, h⟩ := bd h
  refine l_SP_greatestRemainder_4 d n e σ zFuel 0 1 _ k12 ?_
  refine go_iload_n (pc' := 37) dX8_greatestRemainder_36 rfl rfl ?_
  cases h
  exact go_iret dX8_greatestRemainder_37 rfl rfl

set_option maxRecDepth 10000 in
theorem l_SP_byWeights_15 (d : Nat) (n : Nat) (e : Nat) (x1 : Int) {out : Out} : ∀ (F : Nat) (y1 : Int) (y2 : Int) (σ3 : Hp) (j16 : Int × Int × Hp), f_SP_byWeights_15 x1 F y1 y2 σ3 = some j16 → Go none (Ev (d + 1)) mt151 82 [some (pvR 8 0 112), some (pvL x1), none, some (pvL j16.1), none, some (pvI j16.2.1), none] [] (true, n, e, j16.2.2) out → Go none (Ev (d + 1)) mt151 15 [some (pvR 8 0 112), some (pvL x1), none, some (pvL y1), none, some (pvI y2), none] [] (true, n, e, σ3) out := by
  intro F
  induction F with
  | zero =>
    intro _ _ _ _ h
    intro _
    rw [f_SP_byWeights_15] at h
    cases h
  | succ F ih =>
    intro y1 y2 σ3 j16 h hx
    rw [f_SP_byWeights_15] at h
    refine go_iload (pc' := 17) dX8_byWeights_15 rfl rfl ?_
    refine go_aload_n (pc' := 18) dX8_byWeights_17 rfl rfl (Nat.le_of_ble_eq_true rfl) ?_
    refine go_getI (pc' := 21) dX8_byWeights_18 rfl rf_8_27 rfl ?_
    refine go_icmp_ge (t := 82) (pc' := 24) dX8_byWeights_21 rfl rfl (fun c15 => ?_) (fun c15 => ?_)
    · rw [if_pos (show (σ3 112 0) ≤ y2 from c15)] at h
      cases h
      exact hx
    · rw [if_neg (show ¬ ((σ3 112 0) ≤ y2) from c15)] at h
      refine go_aload_n (pc' := 25) dX8_byWeights_24 rfl rfl (Nat.le_of_ble_eq_true rfl) ?_
      refine go_getR (k' := 13) (L0 := 50) (P' := 114) (pc' := 28) dX8_byWeights_25 rfl rf_8_15 rfl rfl (by omega) ?_
      refine go_iload (pc' := 30) dX8_byWeights_28 rfl rfl ?_
      refine go_aload_n (pc' := 31) dX8_byWeights_30 rfl rfl (Nat.le_of_ble_eq_true rfl) ?_
      refine go_getL (pc' := 34) dX8_byWeights_31 rfl rf_8_31 rfl ?_
      refine go_aload_n (pc' := 35) dX8_byWeights_34 rfl rfl (Nat.le_of_ble_eq_true rfl) ?_
      refine go_getR (k' := 13) (L0 := 50) (P' := 113) (pc' := 38) dX8_byWeights_35 rfl rf_8_9 rfl rfl (by omega) ?_
      refine go_iload (pc' := 40) dX8_byWeights_38 rfl rfl ?_
      obtain ⟨g4, h⟩ := gd h
      refine go_lald (pc' := 41) dX8_byWeights_40 rfl g4 ?_
      obtain ⟨g5, h⟩ := gd h
      refine go_lmul (pc' := 42) dX8_byWeights_41 rfl g5 ?_
      refine go_lload_n (pc' := 43) dX8_byWeights_42 rfl rfl ?_
      obtain ⟨g6, h⟩ := gd h
      refine go_ldiv (pc' := 44) dX8_byWeights_43 rfl g6 ?_
      obtain ⟨g7, h⟩ := gd h
      refine go_last (pc' := 45) dX8_byWeights_44 rfl g7 ?_
      refine go_aload_n (pc' := 46) dX8_byWeights_45 rfl rfl (Nat.le_of_ble_eq_true rfl) ?_
      refine go_getR (k' := 13) (L0 := 50) (P' := 115) (pc' := 49) dX8_byWeights_46 rfl rf_8_18 rfl rfl (by omega) ?_
      refine go_iload (pc' := 51) dX8_byWeights_49 rfl rfl ?_
      refine go_aload_n (pc' := 52) dX8_byWeights_51 rfl rfl (Nat.le_of_ble_eq_true rfl) ?_
      refine go_getL (pc' := 55) dX8_byWeights_52 rfl rf_8_31 rfl ?_
      refine go_aload_n (pc' := 56) dX8_byWeights_55 rfl rfl (Nat.le_of_ble_eq_true rfl) ?_
      refine go_getR (k' := 13) (L0 := 50) (P' := 113) (pc' := 59) dX8_byWeights_56 rfl rf_8_9 rfl rfl (by omega) ?_
      refine go_iload (pc' := 61) dX8_byWeights_59 rfl rfl ?_
      obtain ⟨g8, h⟩ := gd h
      refine go_lald (pc' := 62) dX8_byWeights_61 rfl g8 ?_
      obtain ⟨g9, h⟩ := gd h
      refine go_lmul (pc' := 63) dX8_byWeights_62 rfl g9 ?_
      refine go_lload_n (pc' := 64) dX8_byWeights_63 rfl rfl ?_
      obtain ⟨g10, h⟩ := gd h
      refine go_lrem (pc' := 65) dX8_byWeights_64 rfl g10 ?_
      obtain ⟨g11, h⟩ := gd h
      refine go_last (pc' := 66) dX8_byWeights_65 rfl g11 ?_
      refine go_lload_n (pc' := 67) dX8_byWeights_66 rfl rfl ?_
      refine go_aload_n (pc' := 68) dX8_byWeights_67 rfl rfl (Nat.le_of_ble_eq_true rfl) ?_
      refine go_getR (k' := 13) (L0 := 50) (P' := 114) (pc' := 71) dX8_byWeights_68 rfl rf_8_15 rfl rfl (by omega) ?_
      refine go_iload (pc' := 73) dX8_byWeights_71 rfl rfl ?_
      obtain ⟨g12, h⟩ := gd h
      refine go_lald (pc' := 74) dX8_byWeights_73 rfl g12 ?_
      obtain ⟨g13, h⟩ := gd h
      refine go_lsub (pc' := 75) dX8_byWeights_74 rfl g13 ?_
      refine go_lstore_n (L' := [some (pvR 8 0 112), some (pvL x1), none, some (pvL (y1 - ((hset (hset σ3 114 y2 (Int.tdiv ((σ3 112 1) * (σ3 113 y2)) x1)) 115 y2 (Int.tmod (((hset σ3 114 y2 (Int.tdiv ((σ3 112 1) * (σ3 113 y2)) x1)) 112 1) * ((hset σ3 114 y2 (Int.tdiv ((σ3 112 1) * (σ3 113 y2)) x1)) 113 y2)) x1)) 114 y2))), none, some (pvI y2), none]) (pc' := 76) dX8_byWeights_75 rfl (Nat.le_of_ble_eq_true rfl) rfl ?_
      obtain ⟨g14, h⟩ := gd h
      refine go_iinc (L' := [some (pvR 8 0 112), some (pvL x1), none, some (pvL (y1 - ((hset (hset σ3 114 y2 (Int.tdiv ((σ3 112 1) * (σ3 113 y2)) x1)) 115 y2 (Int.tmod (((hset σ3 114 y2 (Int.tdiv ((σ3 112 1) * (σ3 113 y2)) x1)) 112 1) * ((hset σ3 114 y2 (Int.tdiv ((σ3 112 1) * (σ3 113 y2)) x1)) 113 y2)) x1)) 114 y2))), none, some (pvI (y2 + 1)), none]) (pc' := 79) dX8_byWeights_76 rfl rfl g14 rfl ?_
      refine go_goto (t := 15) dX8_byWeights_79 rfl ?_
      exact ih (y1 - ((hset (hset σ3 114 y2 (Int.tdiv ((σ3 112 1) * (σ3 113 y2)) x1)) 115 y2 (Int.tmod (((hset σ3 114 y2 (Int.tdiv ((σ3 112 1) * (σ3 113 y2)) x1)) 112 1) * ((hset σ3 114 y2 (Int.tdiv ((σ3 112 1) * (σ3 113 y2)) x1)) 113 y2)) x1)) 114 y2)) (y2 + 1) (hset (hset σ3 114 y2 (Int.tdiv ((σ3 112 1) * (σ3 113 y2)) x1)) 115 y2 (Int.tmod (((hset σ3 114 y2 (Int.tdiv ((σ3 112 1) * (σ3 113 y2)) x1)) 112 1) * ((hset σ3 114 y2 (Int.tdiv ((σ3 112 1) * (σ3 113 y2)) x1)) 113 y2)) x1)) _ h hx

set_option maxRecDepth 10000 in
theorem l_SP_byWeights_85 (d : Nat) (n : Nat) (e : Nat) (x1 : Int) (j17 : Int × Int × Hp) {out : Out} : ∀ (F : Nat) (y19 : Int) (σ20 : Hp) (j30 : Int × Hp), f_SP_byWeights_85 j17 F y19 σ20 = some j30 → Go none (Ev (d + 1)) mt151 135 [some (pvR 8 0 112), some (pvL x1), none, some (pvL j17.1), none, some (pvI j30.1), none] [] (true, n, e, j30.2) out → Go none (Ev (d + 1)) mt151 85 [some (pvR 8 0 112), some (pvL x1), none, some (pvL j17.1), none, some (pvI y19), none] [] (true, n, e, σ20) out := by
  intro F
  induction F with
  | zero =>
    intro _ _ _ h
    intro _
    rw [f_SP_byWeights_85] at h
    cases h
  | succ F ih =>
    intro y19 σ20 j30 h hx
    rw [f_SP_byWeights_85] at h
    refine go_iload (pc' := 87) dX8_byWeights_85 rfl rfl ?_
    refine go_i2l (pc' := 88) dX8_byWeights_87 rfl ?_
    refine go_lload_n (pc' := 89) dX8_byWeights_88 rfl rfl ?_
    refine go_lcmp (pc' := 90) dX8_byWeights_89 rfl ?_
    refine go_if_ge (t := 135) (pc' := 93) dX8_byWeights_90 rfl rfl (fun c29 => ?_) (fun c29 => ?_)
    · rw [if_pos (show 0 ≤ (lcm y19 j17.1) from c29)] at h
      cases h
      exact hx
    · rw [if_neg (show ¬ (0 ≤ (lcm y19 j17.1)) from c29)] at h
      refine go_iload (pc' := 95) dX8_byWeights_93 rfl rfl ?_
      refine go_aload_n (pc' := 96) dX8_byWeights_95 rfl rfl (Nat.le_of_ble_eq_true rfl) ?_
      refine go_getI (pc' := 99) dX8_byWeights_96 rfl rf_8_27 rfl ?_
      refine go_icmp_ge (t := 135) (pc' := 102) dX8_byWeights_99 rfl rfl (fun c28 => ?_) (fun c28 => ?_)
      · rw [if_pos (show (σ20 112 0) ≤ y19 from c28)] at h
        cases h
        exact hx
      · rw [if_neg (show ¬ ((σ20 112 0) ≤ y19) from c28)] at h
        refine go_aload_n (pc' := 103) dX8_byWeights_102 rfl rfl (Nat.le_of_ble_eq_true rfl) ?_
        obtain ⟨v21, k22, h⟩ := bd h
        have k22 := l_SP_greatestRemainder (d + 0) n e σ20 _ k22
        refine go_call (kc := 152) (Mc := mt152) (v := some (pvI v21)) (w' := (true, n, e, σ20)) (pc' := 106) (st' := [pvI v21]) [pvR 8 0 112] [] (Or.inl rfl) dX8_byWeights_103 rfl rm_8_45 mtE152 rfl rfl rfl (Nat.le_of_ble_eq_true rfl) (Or.inr ⟨_, _, 112, rfl, Or.inl rfl⟩) k22 rfl ?_
        refine go_istore (L' := [some (pvR 8 0 112), some (pvL x1), none, some (pvL j17.1), none, some (pvI y19), some (pvI v21)]) (pc' := 108) dX8_byWeights_106 rfl (Nat.le_of_ble_eq_true rfl) rfl ?_
        refine go_aload_n (pc' := 109) dX8_byWeights_108 rfl rfl (Nat.le_of_ble_eq_true rfl) ?_
        refine go_getR (k' := 13) (L0 := 50) (P' := 114) (pc' := 112) dX8_byWeights_109 rfl rf_8_15 rfl rfl (by omega) ?_
        refine go_iload (pc' := 114) dX8_byWeights_112 rfl rfl ?_
        refine go_dup2 (pc' := 115) dX8_byWeights_114 rfl (Nat.ne_of_beq_eq_false rfl) (Nat.ne_of_beq_eq_false rfl) ?_
        obtain ⟨g23, h⟩ := gd h
        refine go_lald (pc' := 116) dX8_byWeights_115 rfl g23 ?_
        refine go_lconst (z := 1) (pc' := 117) dX8_byWeights_116 rfl rfl ?_
        obtain ⟨g24, h⟩ := gd h
        refine go_ladd (pc' := 118) dX8_byWeights_117 rfl g24 ?_
        obtain ⟨g25, h⟩ := gd h
        refine go_last (pc' := 119) dX8_byWeights_118 rfl g25 ?_
        refine go_aload_n (pc' := 120) dX8_byWeights_119 rfl rfl (Nat.le_of_ble_eq_true rfl) ?_
        refine go_getR (k' := 13) (L0 := 50) (P' := 115) (pc' := 123) dX8_byWeights_120 rfl rf_8_18 rfl rfl (by omega) ?_
        refine go_iload (pc' := 125) dX8_byWeights_123 rfl rfl ?_
        refine go_ldc2 (pc' := 128) dX8_byWeights_125 rfl (r64_c rfl) rc_8_49 ?_
        obtain ⟨g26, h⟩ := gd h
        refine go_last (pc' := 129) dX8_byWeights_128 rfl g26 ?_
        obtain ⟨g27, h⟩ := gd h
        refine go_iinc (L' := [some (pvR 8 0 112), some (pvL x1), none, some (pvL j17.1), none, some (pvI (y19 + 1)), some (pvI v21)]) (pc' := 132) dX8_byWeights_129 rfl rfl g27 rfl ?_
        refine go_goto (t := 85) dX8_byWeights_132 rfl ?_
        exact go_sub (ih (y19 + 1) (hset (hset σ20 114 v21 ((σ20 114 v21) + 1)) 115 v21 (-1)) _ h hx) ⟨Or.inr rfl, Or.inr rfl, Or.inr rfl, Or.inr rfl, Or.inr rfl, Or.inr rfl, Or.inl rfl, trivial⟩

set_option maxRecDepth 10000 in
theorem l_SP_byWeights (d : Nat) (n e : Nat) (σ : Hp) (x1 : Int) (r : Hp) (h : f_SP_byWeights σ x1 = some r) : Ev (d + 2) 151 [pvR 8 0 112, pvL x1] (true, n, e, σ) (0, none, true, n, e, r) := by
  unfold f_SP_byWeights at h
  refine Ev.of mtE151 rfl rfl rfl rfl ?_
  show Go none (Ev (d + 1)) mt151 0 [some (pvR 8 0 112), some (pvL x1), none, none, none, none, none] [] (true, n, e, σ) (0, none, true, n, e, r)
  refine go_lload_n (pc' := 1) dX8_byWeights_0 rfl rfl ?_
  refine go_lconst (z := 0) (pc' := 2) dX8_byWeights_1 rfl rfl ?_
  refine go_lcmp (pc' := 3) dX8_byWeights_2 rfl ?_
  refine go_if_gt (t := 7) (pc' := 6) dX8_byWeights_3 rfl rfl (fun c33 => ?_) (fun c33 => ?_)
  · rw [if_pos (show 0 < (lcm x1 0) from c33)] at h
    refine go_aload_n (pc' := 8) dX8_byWeights_7 rfl rfl (Nat.le_of_ble_eq_true rfl) ?_
    refine go_getL (pc' := 11) dX8_byWeights_8 rfl rf_8_31 rfl ?_
    refine go_lstore_n (L' := [some (pvR 8 0 112), some (pvL x1), none, some (pvL (σ 112 1)), none, none, none]) (pc' := 12) dX8_byWeights_11 rfl (Nat.le_of_ble_eq_true rfl) rfl ?_
    refine go_iconst (pc' := 13) dX8_byWeights_12 rfl (r32_c rfl) ?_
    refine go_istore (L' := [some (pvR 8 0 112), some (pvL x1), none, some (pvL (σ 112 1)), none, some (pvI 0), none]) (pc' := 15) dX8_byWeights_13 rfl (Nat.le_of_ble_eq_true rfl) rfl ?_
    obtain ⟨j17, k18, h⟩ := bd h
    refine l_SP_byWeights_15 d n e x1 zFuel (σ 112 1) 0 σ _ k18 ?_
    refine go_iconst (pc' := 83) dX8_byWeights_82 rfl (r32_c rfl) ?_
    refine go_istore (L' := [some (pvR 8 0 112), some (pvL x1), none, some (pvL j17.1), none, some (pvI 0), none]) (pc' := 85) dX8_byWeights_83 rfl (Nat.le_of_ble_eq_true rfl) rfl ?_
    obtain ⟨j31, k32, h⟩ := bd h
    refine l_SP_byWeights_85 d n e x1 j17 zFuel 0 j17.2.2 _ k32 ?_
    cases h
    exact go_vret dX8_byWeights_135 rfl rfl
  · rw [if_neg (show ¬ (0 < (lcm x1 0)) from c33)] at h
    cases h
    exact go_vret dX8_byWeights_6 rfl rfl

set_option maxRecDepth 10000 in
theorem l_SP_equally_10 (d : Nat) (n : Nat) (e : Nat)  {out : Out} : ∀ (F : Nat) (y1 : Int) (σ2 : Hp) (j12 : Int × Hp), f_SP_equally_10 F y1 σ2 = some j12 → Go none (Ev (d + 0)) mt153 63 [some (pvR 8 0 112), some (pvI j12.1)] [] (true, n, e, j12.2) out → Go none (Ev (d + 0)) mt153 10 [some (pvR 8 0 112), some (pvI y1)] [] (true, n, e, σ2) out := by
  intro F
  induction F with
  | zero =>
    intro _ _ _ h
    intro _
    rw [f_SP_equally_10] at h
    cases h
  | succ F ih =>
    intro y1 σ2 j12 h hx
    rw [f_SP_equally_10] at h
    refine go_iload_n (pc' := 11) dX8_equally_10 rfl rfl ?_
    refine go_aload_n (pc' := 12) dX8_equally_11 rfl rfl (Nat.le_of_ble_eq_true rfl) ?_
    refine go_getI (pc' := 15) dX8_equally_12 rfl rf_8_27 rfl ?_
    refine go_icmp_ge (t := 63) (pc' := 18) dX8_equally_15 rfl rfl (fun c11 => ?_) (fun c11 => ?_)
    · rw [if_pos (show (σ2 112 0) ≤ y1 from c11)] at h
      cases h
      exact hx
    · rw [if_neg (show ¬ ((σ2 112 0) ≤ y1) from c11)] at h
      refine go_aload_n (pc' := 19) dX8_equally_18 rfl rfl (Nat.le_of_ble_eq_true rfl) ?_
      refine go_getR (k' := 13) (L0 := 50) (P' := 114) (pc' := 22) dX8_equally_19 rfl rf_8_15 rfl rfl (by omega) ?_
      refine go_iload_n (pc' := 23) dX8_equally_22 rfl rfl ?_
      refine go_aload_n (pc' := 24) dX8_equally_23 rfl rfl (Nat.le_of_ble_eq_true rfl) ?_
      refine go_getL (pc' := 27) dX8_equally_24 rfl rf_8_31 rfl ?_
      refine go_aload_n (pc' := 28) dX8_equally_27 rfl rfl (Nat.le_of_ble_eq_true rfl) ?_
      refine go_getI (pc' := 31) dX8_equally_28 rfl rf_8_27 rfl ?_
      refine go_i2l (pc' := 32) dX8_equally_31 rfl ?_
      obtain ⟨g3, h⟩ := gd h
      refine go_ldiv (pc' := 33) dX8_equally_32 rfl g3 ?_
      refine go_iload_n (pc' := 34) dX8_equally_33 rfl rfl ?_
      refine go_i2l (pc' := 35) dX8_equally_34 rfl ?_
      refine go_aload_n (pc' := 36) dX8_equally_35 rfl rfl (Nat.le_of_ble_eq_true rfl) ?_
      refine go_getL (pc' := 39) dX8_equally_36 rfl rf_8_31 rfl ?_
      refine go_aload_n (pc' := 40) dX8_equally_39 rfl rfl (Nat.le_of_ble_eq_true rfl) ?_
      refine go_getI (pc' := 43) dX8_equally_40 rfl rf_8_27 rfl ?_
      refine go_i2l (pc' := 44) dX8_equally_43 rfl ?_
      obtain ⟨g4, h⟩ := gd h
      refine go_lrem (pc' := 45) dX8_equally_44 rfl g4 ?_
      refine go_lcmp (pc' := 46) dX8_equally_45 rfl ?_
      obtain ⟨j5, k6, h⟩ := bd h
      have k6J : Go none (Ev (d + 0)) mt153 54 [some (pvR 8 0 112), some (pvI y1)] [pvI j5, pvL (Int.tdiv (σ2 112 1) (σ2 112 0)), pvI y1, pvR 13 50 114] (true, n, e, σ2) out := by
        refine go_i2l (pc' := 55) dX8_equally_54 rfl ?_
        obtain ⟨g7, h⟩ := gd h
        refine go_ladd (pc' := 56) dX8_equally_55 rfl g7 ?_
        obtain ⟨g8, h⟩ := gd h
        refine go_last (pc' := 57) dX8_equally_56 rfl g8 ?_
        obtain ⟨g9, h⟩ := gd h
        refine go_iinc (L' := [some (pvR 8 0 112), some (pvI (y1 + 1))]) (pc' := 60) dX8_equally_57 rfl rfl g9 rfl ?_
        refine go_goto (t := 10) dX8_equally_60 rfl ?_
        exact ih (y1 + 1) (hset σ2 114 y1 ((Int.tdiv (σ2 112 1) (σ2 112 0)) + j5)) _ h hx
      clear h
      have h := k6
      refine go_if_ge (t := 53) (pc' := 49) dX8_equally_46 rfl rfl (fun c10 => ?_) (fun c10 => ?_)
      · rw [if_pos (show 0 ≤ (lcm y1 (Int.tmod (σ2 112 1) (σ2 112 0))) from c10)] at h
        refine go_iconst (pc' := 54) dX8_equally_53 rfl (r32_c rfl) ?_
        cases h
        exact k6J
      · rw [if_neg (show ¬ (0 ≤ (lcm y1 (Int.tmod (σ2 112 1) (σ2 112 0)))) from c10)] at h
        refine go_iconst (pc' := 50) dX8_equally_49 rfl (r32_c rfl) ?_
        refine go_goto (t := 54) dX8_equally_50 rfl ?_
        cases h
        exact k6J

set_option maxRecDepth 10000 in
theorem l_SP_equally (d : Nat) (n e : Nat) (σ : Hp) (r : Hp) (h : f_SP_equally σ = some r) : Ev (d + 1) 153 [pvR 8 0 112] (true, n, e, σ) (0, none, true, n, e, r) := by
  unfold f_SP_equally at h
  refine Ev.of mtE153 rfl rfl rfl rfl ?_
  show Go none (Ev (d + 0)) mt153 0 [some (pvR 8 0 112), none] [] (true, n, e, σ) (0, none, true, n, e, r)
  refine go_aload_n (pc' := 1) dX8_equally_0 rfl rfl (Nat.le_of_ble_eq_true rfl) ?_
  refine go_getI (pc' := 4) dX8_equally_1 rfl rf_8_27 rfl ?_
  refine go_if_gt (t := 8) (pc' := 7) dX8_equally_4 rfl rfl (fun c15 => ?_) (fun c15 => ?_)
  · rw [if_pos (show 0 < (σ 112 0) from c15)] at h
    refine go_iconst (pc' := 9) dX8_equally_8 rfl (r32_c rfl) ?_
    refine go_istore_n (L' := [some (pvR 8 0 112), some (pvI 0)]) (pc' := 10) dX8_equally_9 rfl (Nat.le_of_ble_eq_true rfl) rfl ?_
    obtain ⟨j13, k14, h⟩ := bd h
    refine l_SP_equally_10 d n e zFuel 0 σ _ k14 ?_
    cases h
    exact go_vret dX8_equally_63 rfl rfl
  · rw [if_neg (show ¬ (0 < (σ 112 0)) from c15)] at h
    cases h
    exact go_vret dX8_equally_7 rfl rfl

set_option maxRecDepth 10000 in
theorem l_SP_share_17 (d : Nat) (n : Nat) (e : Nat) (σ : Hp) (x1 : Int) {out : Out} : ∀ (F : Nat) (y3 : Int) (y4 : Int) (y5 : Int) (j15 : Int × Int × Int), f_SP_share_17 σ F y3 y4 y5 = some j15 → Go none (Ev (d + 2)) mt149 66 [some (pvR 8 0 112), some (pvI x1), some (pvL j15.1), none, some (pvI j15.2.1), some (pvI j15.2.2)] [] (true, n, e, σ) out → Go none (Ev (d + 2)) mt149 17 [some (pvR 8 0 112), some (pvI x1), some (pvL y3), none, some (pvI y4), some (pvI y5)] [] (true, n, e, σ) out := by
  intro F
  induction F with
  | zero =>
    intro _ _ _ _ h
    intro _
    rw [f_SP_share_17] at h
    cases h
  | succ F ih =>
    intro y3 y4 y5 j15 h hx
    rw [f_SP_share_17] at h
    refine go_iload (pc' := 19) dX8_share_17 rfl rfl ?_
    refine go_aload_n (pc' := 20) dX8_share_19 rfl rfl (Nat.le_of_ble_eq_true rfl) ?_
    refine go_getI (pc' := 23) dX8_share_20 rfl rf_8_27 rfl ?_
    refine go_icmp_ge (t := 66) (pc' := 26) dX8_share_23 rfl rfl (fun c14 => ?_) (fun c14 => ?_)
    · rw [if_pos (show (σ 112 0) ≤ y5 from c14)] at h
      cases h
      exact hx
    · rw [if_neg (show ¬ ((σ 112 0) ≤ y5) from c14)] at h
      refine go_lload_n (pc' := 27) dX8_share_26 rfl rfl ?_
      refine go_aload_n (pc' := 28) dX8_share_27 rfl rfl (Nat.le_of_ble_eq_true rfl) ?_
      refine go_getR (k' := 13) (L0 := 50) (P' := 113) (pc' := 31) dX8_share_28 rfl rf_8_9 rfl rfl (by omega) ?_
      refine go_iload (pc' := 33) dX8_share_31 rfl rfl ?_
      obtain ⟨g6, h⟩ := gd h
      refine go_lald (pc' := 34) dX8_share_33 rfl g6 ?_
      obtain ⟨g7, h⟩ := gd h
      refine go_ladd (pc' := 35) dX8_share_34 rfl g7 ?_
      refine go_lstore_n (L' := [some (pvR 8 0 112), some (pvI x1), some (pvL (y3 + (σ 113 y5))), none, some (pvI y4), some (pvI y5)]) (pc' := 36) dX8_share_35 rfl (Nat.le_of_ble_eq_true rfl) rfl ?_
      refine go_iload (pc' := 38) dX8_share_36 rfl rfl ?_
      obtain ⟨j8, k9, h⟩ := bd h
      have k9J : Go none (Ev (d + 2)) mt149 58 [some (pvR 8 0 112), some (pvI x1), some (pvL (y3 + (σ 113 y5))), none, some (pvI y4), some (pvI y5)] [pvI j8] (true, n, e, σ) out := by
        refine go_istore (L' := [some (pvR 8 0 112), some (pvI x1), some (pvL (y3 + (σ 113 y5))), none, some (pvI j8), some (pvI y5)]) (pc' := 60) dX8_share_58 rfl (Nat.le_of_ble_eq_true rfl) rfl ?_
        obtain ⟨g12, h⟩ := gd h
        refine go_iinc (L' := [some (pvR 8 0 112), some (pvI x1), some (pvL (y3 + (σ 113 y5))), none, some (pvI j8), some (pvI (y5 + 1))]) (pc' := 63) dX8_share_60 rfl rfl g12 rfl ?_
        refine go_goto (t := 17) dX8_share_63 rfl ?_
        exact ih (y3 + (σ 113 y5)) j8 (y5 + 1) _ h hx
      clear h
      have h := k9
      refine go_if_eq (t := 57) (pc' := 41) dX8_share_38 rfl rfl (fun c13 => ?_) (fun c13 => ?_)
      · rw [if_pos (show y4 = 0 from c13)] at h
        refine go_iconst (pc' := 58) dX8_share_57 rfl (r32_c rfl) ?_
        cases h
        exact k9J
      · rw [if_neg (show ¬ (y4 = 0) from c13)] at h
        refine go_aload_n (pc' := 42) dX8_share_41 rfl rfl (Nat.le_of_ble_eq_true rfl) ?_
        refine go_getR (k' := 13) (L0 := 50) (P' := 113) (pc' := 45) dX8_share_42 rfl rf_8_9 rfl rfl (by omega) ?_
        refine go_iload (pc' := 47) dX8_share_45 rfl rfl ?_
        obtain ⟨g10, h⟩ := gd h
        refine go_lald (pc' := 48) dX8_share_47 rfl g10 ?_
        refine go_lconst (z := 0) (pc' := 49) dX8_share_48 rfl rfl ?_
        refine go_lcmp (pc' := 50) dX8_share_49 rfl ?_
        refine go_if_lt (t := 57) (pc' := 53) dX8_share_50 rfl rfl (fun c11 => ?_) (fun c11 => ?_)
        · rw [if_pos (show (lcm (σ 113 y5) 0) < 0 from c11)] at h
          refine go_iconst (pc' := 58) dX8_share_57 rfl (r32_c rfl) ?_
          cases h
          exact k9J
        · rw [if_neg (show ¬ ((lcm (σ 113 y5) 0) < 0) from c11)] at h
          refine go_iconst (pc' := 54) dX8_share_53 rfl (r32_c rfl) ?_
          refine go_goto (t := 58) dX8_share_54 rfl ?_
          cases h
          exact k9J

set_option maxRecDepth 10000 in
theorem l_SP_share (d : Nat) (n e : Nat) (σ : Hp) (x1 : Int) (r : Hp) (h : f_SP_share σ x1 = some r) : Ev (d + 3) 149 [pvR 8 0 112, pvI x1] (true, n, e, σ) (0, none, true, n, e, r) := by
  unfold f_SP_share at h
  refine Ev.of mtE149 rfl rfl rfl rfl ?_
  show Go none (Ev (d + 2)) mt149 0 [some (pvR 8 0 112), some (pvI x1), none, none, none, none] [] (true, n, e, σ) (0, none, true, n, e, r)
  refine go_lconst (z := 0) (pc' := 1) dX8_share_0 rfl rfl ?_
  refine go_lstore_n (L' := [some (pvR 8 0 112), some (pvI x1), some (pvL 0), none, none, none]) (pc' := 2) dX8_share_1 rfl (Nat.le_of_ble_eq_true rfl) rfl ?_
  refine go_iload_n (pc' := 3) dX8_share_2 rfl rfl ?_
  refine go_iconst (pc' := 4) dX8_share_3 rfl (r32_c rfl) ?_
  obtain ⟨j1, k2, h⟩ := bd h
  have k2J : Go none (Ev (d + 2)) mt149 12 [some (pvR 8 0 112), some (pvI x1), some (pvL 0), none, none, none] [pvI j1] (true, n, e, σ) (0, none, true, n, e, r) := by
    refine go_istore (L' := [some (pvR 8 0 112), some (pvI x1), some (pvL 0), none, some (pvI j1), none]) (pc' := 14) dX8_share_12 rfl (Nat.le_of_ble_eq_true rfl) rfl ?_
    refine go_iconst (pc' := 15) dX8_share_14 rfl (r32_c rfl) ?_
    refine go_istore (L' := [some (pvR 8 0 112), some (pvI x1), some (pvL 0), none, some (pvI j1), some (pvI 0)]) (pc' := 17) dX8_share_15 rfl (Nat.le_of_ble_eq_true rfl) rfl ?_
    obtain ⟨j16, k17, h⟩ := bd h
    refine l_SP_share_17 d n e σ x1 zFuel 0 j1 0 _ k17 ?_
    refine go_iload_n (pc' := 67) dX8_share_66 rfl rfl ?_
    refine go_iconst (pc' := 68) dX8_share_67 rfl (r32_c rfl) ?_
    obtain ⟨j18, k19, h⟩ := bd h
    have k19J : Go none (Ev (d + 2)) mt149 102 [some (pvR 8 0 112), some (pvI x1), some (pvL j16.1), none, some (pvI j16.2.1), some (pvI j16.2.2)] [] (true, n, e, j18) (0, none, true, n, e, r) := by
      cases h
      exact go_vret dX8_share_102 rfl rfl
    clear h
    have h := k19
    refine go_icmp_ne (t := 79) (pc' := 71) dX8_share_68 rfl rfl (fun c30 => ?_) (fun c30 => ?_)
    · rw [if_pos (show x1 ≠ 2 from c30)] at h
      refine go_iload (pc' := 81) dX8_share_79 rfl rfl ?_
      refine go_if_eq (t := 98) (pc' := 84) dX8_share_81 rfl rfl (fun c27 => ?_) (fun c27 => ?_)
      · rw [if_pos (show j16.2.1 = 0 from c27)] at h
        refine go_aload_n (pc' := 99) dX8_share_98 rfl rfl (Nat.le_of_ble_eq_true rfl) ?_
        obtain ⟨v20, k21, h⟩ := bd h
        have k21 := l_SP_equally (d + 1) n e σ _ k21
        refine go_call (kc := 153) (Mc := mt153) (v := none) (w' := (true, n, e, v20)) (pc' := 102) (st' := []) [pvR 8 0 112] [] (Or.inl rfl) dX8_share_99 rfl rm_8_42 mtE153 rfl rfl rfl (Nat.le_of_ble_eq_true rfl) (Or.inr ⟨_, _, 112, rfl, Or.inl rfl⟩) k21 rfl ?_
        cases h
        exact k19J
      · rw [if_neg (show ¬ (j16.2.1 = 0) from c27)] at h
        refine go_lload_n (pc' := 85) dX8_share_84 rfl rfl ?_
        refine go_lconst (z := 0) (pc' := 86) dX8_share_85 rfl rfl ?_
        refine go_lcmp (pc' := 87) dX8_share_86 rfl ?_
        refine go_if_le (t := 98) (pc' := 90) dX8_share_87 rfl rfl (fun c26 => ?_) (fun c26 => ?_)
        · rw [if_pos (show (lcm j16.1 0) ≤ 0 from c26)] at h
          refine go_aload_n (pc' := 99) dX8_share_98 rfl rfl (Nat.le_of_ble_eq_true rfl) ?_
          obtain ⟨v22, k23, h⟩ := bd h
          have k23 := l_SP_equally (d + 1) n e σ _ k23
          refine go_call (kc := 153) (Mc := mt153) (v := none) (w' := (true, n, e, v22)) (pc' := 102) (st' := []) [pvR 8 0 112] [] (Or.inl rfl) dX8_share_99 rfl rm_8_42 mtE153 rfl rfl rfl (Nat.le_of_ble_eq_true rfl) (Or.inr ⟨_, _, 112, rfl, Or.inl rfl⟩) k23 rfl ?_
          cases h
          exact k19J
        · rw [if_neg (show ¬ ((lcm j16.1 0) ≤ 0) from c26)] at h
          refine go_aload_n (pc' := 91) dX8_share_90 rfl rfl (Nat.le_of_ble_eq_true rfl) ?_
          refine go_lload_n (pc' := 92) dX8_share_91 rfl rfl ?_
          obtain ⟨v24, k25, h⟩ := bd h
          have k25 := l_SP_byWeights (d + 0) n e σ j16.1 _ k25
          refine go_call (kc := 151) (Mc := mt151) (v := none) (w' := (true, n, e, v24)) (pc' := 95) (st' := []) [pvR 8 0 112, pvL j16.1] [] (Or.inl rfl) dX8_share_92 rfl rm_8_39 mtE151 rfl rfl rfl (Nat.le_of_ble_eq_true rfl) (Or.inr ⟨_, _, 112, rfl, Or.inl rfl⟩) k25 rfl ?_
          refine go_goto (t := 102) dX8_share_95 rfl ?_
          cases h
          exact k19J
    · rw [if_neg (show ¬ (x1 ≠ 2) from c30)] at h
      refine go_aload_n (pc' := 72) dX8_share_71 rfl rfl (Nat.le_of_ble_eq_true rfl) ?_
      refine go_lload_n (pc' := 73) dX8_share_72 rfl rfl ?_
      obtain ⟨v28, k29, h⟩ := bd h
      have k29 := l_SP_leaveRest (d + 1) n e σ j16.1 _ k29
      refine go_call (kc := 150) (Mc := mt150) (v := none) (w' := (true, n, e, v28)) (pc' := 76) (st' := []) [pvR 8 0 112, pvL j16.1] [] (Or.inl rfl) dX8_share_73 rfl rm_8_35 mtE150 rfl rfl rfl (Nat.le_of_ble_eq_true rfl) (Or.inr ⟨_, _, 112, rfl, Or.inl rfl⟩) k29 rfl ?_
      refine go_goto (t := 102) dX8_share_76 rfl ?_
      cases h
      exact k19J
  clear h
  have h := k2
  refine go_icmp_ne (t := 11) (pc' := 7) dX8_share_4 rfl rfl (fun c31 => ?_) (fun c31 => ?_)
  · rw [if_pos (show x1 ≠ 1 from c31)] at h
    refine go_iconst (pc' := 12) dX8_share_11 rfl (r32_c rfl) ?_
    cases h
    exact k2J
  · rw [if_neg (show ¬ (x1 ≠ 1) from c31)] at h
    refine go_iconst (pc' := 8) dX8_share_7 rfl (r32_c rfl) ?_
    refine go_goto (t := 12) dX8_share_8 rfl ?_
    cases h
    exact k2J

set_option maxRecDepth 10000 in
theorem l_SP_inRange_2 (d : Nat) (n : Nat) (e : Nat) (σ : Hp) : ∀ (F : Nat) (y1 : Int) (r : Int), f_SP_inRange_2 σ F y1 = some r → Go none (Ev (d + 0)) mt154 2 [some (pvR 8 0 112), some (pvI y1)] [] (true, n, e, σ) (0, some (pvI r), true, n, e, σ) := by
  intro F
  induction F with
  | zero =>
    intro _ _ h
    rw [f_SP_inRange_2] at h
    cases h
  | succ F ih =>
    intro y1 r h
    rw [f_SP_inRange_2] at h
    refine go_iload_n (pc' := 3) dX8_inRange_2 rfl rfl ?_
    refine go_aload_n (pc' := 4) dX8_inRange_3 rfl rfl (Nat.le_of_ble_eq_true rfl) ?_
    refine go_getI (pc' := 7) dX8_inRange_4 rfl rf_8_27 rfl ?_
    refine go_icmp_ge (t := 44) (pc' := 10) dX8_inRange_7 rfl rfl (fun c10 => ?_) (fun c10 => ?_)
    · rw [if_pos (show (σ 112 0) ≤ y1 from c10)] at h
      refine go_iconst (pc' := 45) dX8_inRange_44 rfl (r32_c rfl) ?_
      obtain ⟨g2, h⟩ := gd h
      cases h
      exact go_zret dX8_inRange_45 rfl g2 rfl
    · rw [if_neg (show ¬ ((σ 112 0) ≤ y1) from c10)] at h
      refine go_aload_n (pc' := 11) dX8_inRange_10 rfl rfl (Nat.le_of_ble_eq_true rfl) ?_
      refine go_getR (k' := 13) (L0 := 50) (P' := 114) (pc' := 14) dX8_inRange_11 rfl rf_8_15 rfl rfl (by omega) ?_
      refine go_iload_n (pc' := 15) dX8_inRange_14 rfl rfl ?_
      obtain ⟨g3, h⟩ := gd h
      refine go_lald (pc' := 16) dX8_inRange_15 rfl g3 ?_
      refine go_ldc2 (pc' := 19) dX8_inRange_16 rfl (r64_c rfl) rc_8_51 ?_
      refine go_lcmp (pc' := 20) dX8_inRange_19 rfl ?_
      refine go_if_lt (t := 36) (pc' := 23) dX8_inRange_20 rfl rfl (fun c9 => ?_) (fun c9 => ?_)
      · rw [if_pos (show (lcm (σ 114 y1) (-1000000)) < 0 from c9)] at h
        refine go_iconst (pc' := 37) dX8_inRange_36 rfl (r32_c rfl) ?_
        obtain ⟨g4, h⟩ := gd h
        cases h
        exact go_zret dX8_inRange_37 rfl g4 rfl
      · rw [if_neg (show ¬ ((lcm (σ 114 y1) (-1000000)) < 0) from c9)] at h
        refine go_aload_n (pc' := 24) dX8_inRange_23 rfl rfl (Nat.le_of_ble_eq_true rfl) ?_
        refine go_getR (k' := 13) (L0 := 50) (P' := 114) (pc' := 27) dX8_inRange_24 rfl rf_8_15 rfl rfl (by omega) ?_
        refine go_iload_n (pc' := 28) dX8_inRange_27 rfl rfl ?_
        obtain ⟨g5, h⟩ := gd h
        refine go_lald (pc' := 29) dX8_inRange_28 rfl g5 ?_
        refine go_ldc2 (pc' := 32) dX8_inRange_29 rfl (r64_c rfl) rc_8_53 ?_
        refine go_lcmp (pc' := 33) dX8_inRange_32 rfl ?_
        refine go_if_le (t := 38) (pc' := 36) dX8_inRange_33 rfl rfl (fun c8 => ?_) (fun c8 => ?_)
        · rw [if_pos (show (lcm (σ 114 y1) 1000000) ≤ 0 from c8)] at h
          obtain ⟨g6, h⟩ := gd h
          refine go_iinc (L' := [some (pvR 8 0 112), some (pvI (y1 + 1))]) (pc' := 41) dX8_inRange_38 rfl rfl g6 rfl ?_
          refine go_goto (t := 2) dX8_inRange_41 rfl ?_
          exact ih (y1 + 1) _ h
        · rw [if_neg (show ¬ ((lcm (σ 114 y1) 1000000) ≤ 0) from c8)] at h
          refine go_iconst (pc' := 37) dX8_inRange_36 rfl (r32_c rfl) ?_
          obtain ⟨g7, h⟩ := gd h
          cases h
          exact go_zret dX8_inRange_37 rfl g7 rfl

set_option maxRecDepth 10000 in
theorem l_SP_inRange (d : Nat) (n e : Nat) (σ : Hp) (r : Int) (h : f_SP_inRange σ = some r) : Ev (d + 1) 154 [pvR 8 0 112] (true, n, e, σ) (0, some (pvI r), true, n, e, σ) := by
  unfold f_SP_inRange at h
  refine Ev.of mtE154 rfl rfl rfl rfl ?_
  show Go none (Ev (d + 0)) mt154 0 [some (pvR 8 0 112), none] [] (true, n, e, σ) (0, some (pvI r), true, n, e, σ)
  refine go_iconst (pc' := 1) dX8_inRange_0 rfl (r32_c rfl) ?_
  refine go_istore_n (L' := [some (pvR 8 0 112), some (pvI 0)]) (pc' := 2) dX8_inRange_1 rfl (Nat.le_of_ble_eq_true rfl) rfl ?_
  exact l_SP_inRange_2 d n e σ zFuel 0 _ h

set_option maxRecDepth 10000 in
theorem l_SP_shareAt (d : Nat) (n e : Nat) (σ : Hp) (x1 : Int) (r : Int) (h : f_SP_shareAt σ x1 = some r) : Ev (d + 1) 156 [pvR 8 0 112, pvI x1] (true, n, e, σ) (0, some (pvL r), true, n, e, σ) := by
  unfold f_SP_shareAt at h
  refine Ev.of mtE156 rfl rfl rfl rfl ?_
  show Go none (Ev (d + 0)) mt156 0 [some (pvR 8 0 112), some (pvI x1)] [] (true, n, e, σ) (0, some (pvL r), true, n, e, σ)
  refine go_iload_n (pc' := 1) dX8_shareAt_0 rfl rfl ?_
  obtain ⟨j1, k2, h⟩ := bd h
  have k2J : Go none (Ev (d + 0)) mt156 22 [some (pvR 8 0 112), some (pvI x1)] [pvL j1] (true, n, e, σ) (0, some (pvL r), true, n, e, σ) := by
    cases h
    exact go_lret dX8_shareAt_22 rfl rfl
  clear h
  have h := k2
  refine go_if_lt (t := 21) (pc' := 4) dX8_shareAt_1 rfl rfl (fun c5 => ?_) (fun c5 => ?_)
  · rw [if_pos (show x1 < 0 from c5)] at h
    refine go_lconst (z := 0) (pc' := 22) dX8_shareAt_21 rfl rfl ?_
    cases h
    exact k2J
  · rw [if_neg (show ¬ (x1 < 0) from c5)] at h
    refine go_iload_n (pc' := 5) dX8_shareAt_4 rfl rfl ?_
    refine go_aload_n (pc' := 6) dX8_shareAt_5 rfl rfl (Nat.le_of_ble_eq_true rfl) ?_
    refine go_getI (pc' := 9) dX8_shareAt_6 rfl rf_8_27 rfl ?_
    refine go_icmp_ge (t := 21) (pc' := 12) dX8_shareAt_9 rfl rfl (fun c4 => ?_) (fun c4 => ?_)
    · rw [if_pos (show (σ 112 0) ≤ x1 from c4)] at h
      refine go_lconst (z := 0) (pc' := 22) dX8_shareAt_21 rfl rfl ?_
      cases h
      exact k2J
    · rw [if_neg (show ¬ ((σ 112 0) ≤ x1) from c4)] at h
      refine go_aload_n (pc' := 13) dX8_shareAt_12 rfl rfl (Nat.le_of_ble_eq_true rfl) ?_
      refine go_getR (k' := 13) (L0 := 50) (P' := 114) (pc' := 16) dX8_shareAt_13 rfl rf_8_15 rfl rfl (by omega) ?_
      refine go_iload_n (pc' := 17) dX8_shareAt_16 rfl rfl ?_
      obtain ⟨g3, h⟩ := gd h
      refine go_lald (pc' := 18) dX8_shareAt_17 rfl g3 ?_
      refine go_goto (t := 22) dX8_shareAt_18 rfl ?_
      cases h
      exact k2J

set_option maxRecDepth 10000 in
theorem l_C_writeShares_4 (d : Nat) (n : Nat) (e : Nat)  {out : Out} : ∀ (F : Nat) (y1 : Int) (y2 : Int) (σ3 : Hp) (j17 : Int × Int × Hp), f_C_writeShares_4 F y1 y2 σ3 = some j17 → Go none (Ev (d + 6)) mt155 48 [some (pvR 10 0 0), some (pvI j17.1), some (pvI j17.2.1)] [] (true, n, e, j17.2.2) out → Go none (Ev (d + 6)) mt155 4 [some (pvR 10 0 0), some (pvI y1), some (pvI y2)] [] (true, n, e, σ3) out := by
  intro F
  induction F with
  | zero =>
    intro _ _ _ _ h
    intro _
    rw [f_C_writeShares_4] at h
    cases h
  | succ F ih =>
    intro y1 y2 σ3 j17 h hx
    rw [f_C_writeShares_4] at h
    refine go_iload_n (pc' := 5) dX10_writeShares_4 rfl rfl ?_
    refine go_aload_n (pc' := 6) dX10_writeShares_5 rfl rfl (Nat.le_of_ble_eq_true rfl) ?_
    refine go_getR (k' := 6) (L0 := 0) (P' := 116) (pc' := 9) dX10_writeShares_6 rfl rf_10_51 rfl rfl (by omega) ?_
    refine go_getI (pc' := 12) dX10_writeShares_9 rfl rf_10_287 rfl ?_
    refine go_icmp_ge (t := 48) (pc' := 15) dX10_writeShares_12 rfl rfl (fun c16 => ?_) (fun c16 => ?_)
    · rw [if_pos (show (σ3 116 9) ≤ y2 from c16)] at h
      cases h
      exact hx
    · rw [if_neg (show ¬ ((σ3 116 9) ≤ y2) from c16)] at h
      refine go_aload_n (pc' := 16) dX10_writeShares_15 rfl rfl (Nat.le_of_ble_eq_true rfl) ?_
      refine go_aload_n (pc' := 17) dX10_writeShares_16 rfl rfl (Nat.le_of_ble_eq_true rfl) ?_
      refine go_getR (k' := 6) (L0 := 0) (P' := 116) (pc' := 20) dX10_writeShares_17 rfl rf_10_51 rfl rfl (by omega) ?_
      refine go_iload_n (pc' := 21) dX10_writeShares_20 rfl rfl ?_
      obtain ⟨v4, k5, h⟩ := bd h
      have k5 := l_R_rowAt (d + 5) n e σ3 y2 _ k5
      refine go_call (kc := 147) (Mc := mt147) (v := some (pvI v4)) (w' := (true, n, e, σ3)) (pc' := 24) (st' := [pvI v4, pvR 10 0 0]) [pvR 6 0 116, pvI y2] [pvR 10 0 0] (Or.inl rfl) dX10_writeShares_21 rfl rm_10_298 mtE147 rfl rfl rfl (Nat.le_of_ble_eq_true rfl) (Or.inr ⟨_, _, 116, rfl, Or.inl rfl⟩) k5 rfl ?_
      refine go_aload_n (pc' := 25) dX10_writeShares_24 rfl rfl (Nat.le_of_ble_eq_true rfl) ?_
      refine go_getR (k' := 8) (L0 := 0) (P' := 112) (pc' := 28) dX10_writeShares_25 rfl rf_10_42 rfl rfl (by omega) ?_
      refine go_iload_n (pc' := 29) dX10_writeShares_28 rfl rfl ?_
      obtain ⟨v6, k7, h⟩ := bd h
      have k7 := l_SP_shareAt (d + 5) n e σ3 y2 _ k7
      refine go_call (kc := 156) (Mc := mt156) (v := some (pvL v6)) (w' := (true, n, e, σ3)) (pc' := 32) (st' := [pvL v6, pvI v4, pvR 10 0 0]) [pvR 8 0 112, pvI y2] [pvI v4, pvR 10 0 0] (Or.inl rfl) dX10_writeShares_29 rfl rm_10_370 mtE156 rfl rfl rfl (Nat.le_of_ble_eq_true rfl) (Or.inr ⟨_, _, 112, rfl, Or.inl rfl⟩) k7 rfl ?_
      obtain ⟨g8, h⟩ := gd h
      refine go_l2i (pc' := 33) dX10_writeShares_32 rfl g8 ?_
      obtain ⟨v9, k10, h⟩ := bd h
      have k10 := l_C_setNumber (d + 0) n e σ3 v4 v6 _ k10
      refine go_call (kc := 77) (Mc := mt77) (v := some (pvI v9.1)) (w' := (true, n, e, v9.2)) (pc' := 36) (st' := [pvI v9.1]) [pvR 10 0 0, pvI v4, pvI v6] [] (Or.inl rfl) dX10_writeShares_33 rfl rm_10_221 mtE77 rfl rfl rfl (Nat.le_of_ble_eq_true rfl) (Or.inr ⟨_, _, 0, rfl, Or.inl rfl⟩) k10 rfl ?_
      obtain ⟨j11, k12, h⟩ := bd h
      have k12J : Go none (Ev (d + 6)) mt155 42 [some (pvR 10 0 0), some (pvI j11), some (pvI y2)] [] (true, n, e, v9.2) out := by
        obtain ⟨g14, h⟩ := gd h
        refine go_iinc (L' := [some (pvR 10 0 0), some (pvI j11), some (pvI (y2 + 1))]) (pc' := 45) dX10_writeShares_42 rfl rfl g14 rfl ?_
        refine go_goto (t := 4) dX10_writeShares_45 rfl ?_
        exact ih j11 (y2 + 1) v9.2 _ h hx
      clear h
      have h := k12
      refine go_if_eq (t := 42) (pc' := 39) dX10_writeShares_36 rfl rfl (fun c15 => ?_) (fun c15 => ?_)
      · rw [if_pos (show v9.1 = 0 from c15)] at h
        cases h
        exact k12J
      · rw [if_neg (show ¬ (v9.1 = 0) from c15)] at h
        obtain ⟨g13, h⟩ := gd h
        refine go_iinc (L' := [some (pvR 10 0 0), some (pvI (y1 + 1)), some (pvI y2)]) (pc' := 42) dX10_writeShares_39 rfl rfl g13 rfl ?_
        cases h
        exact k12J

set_option maxRecDepth 10000 in
theorem l_C_writeShares (d : Nat) (n e : Nat) (σ : Hp) (r : Int × Hp) (h : f_C_writeShares σ = some r) : Ev (d + 7) 155 [pvR 10 0 0] (true, n, e, σ) (0, some (pvI r.1), true, n, e, r.2) := by
  unfold f_C_writeShares at h
  refine Ev.of mtE155 rfl rfl rfl rfl ?_
  show Go none (Ev (d + 6)) mt155 0 [some (pvR 10 0 0), none, none] [] (true, n, e, σ) (0, some (pvI r.1), true, n, e, r.2)
  refine go_iconst (pc' := 1) dX10_writeShares_0 rfl (r32_c rfl) ?_
  refine go_istore_n (L' := [some (pvR 10 0 0), some (pvI 0), none]) (pc' := 2) dX10_writeShares_1 rfl (Nat.le_of_ble_eq_true rfl) rfl ?_
  refine go_iconst (pc' := 3) dX10_writeShares_2 rfl (r32_c rfl) ?_
  refine go_istore_n (L' := [some (pvR 10 0 0), some (pvI 0), some (pvI 0)]) (pc' := 4) dX10_writeShares_3 rfl (Nat.le_of_ble_eq_true rfl) rfl ?_
  obtain ⟨j18, k19, h⟩ := bd h
  refine l_C_writeShares_4 d n e zFuel 0 0 σ _ k19 ?_
  refine go_iload_n (pc' := 49) dX10_writeShares_48 rfl rfl ?_
  cases h
  exact go_iret dX10_writeShares_49 rfl rfl

set_option maxRecDepth 10000 in
theorem l_C_write_176 (d : Nat) (n : Nat) (e : Nat) (x1 : Int) (x2 : Int) (x3 : Int) (x4 : Int) (x5 : Int) (x6 : Int) (v1 : Nat × Int) {out : Out} : ∀ (F : Nat) (y32 : Int) (σ33 : Hp) (j42 : Int × Hp), f_C_write_176 F y32 σ33 = some j42 → Go none (Ev (d + 7)) mt144 220 [some (pvR 10 0 0), some (pvI x1), some (pvI x2), some (pvI x3), some (pvI x4), some (pvI x5), some (pvI x6), some (pvI v1.2), some (pvI j42.1)] [] (true, n, e, j42.2) out → Go none (Ev (d + 7)) mt144 176 [some (pvR 10 0 0), some (pvI x1), some (pvI x2), some (pvI x3), some (pvI x4), some (pvI x5), some (pvI x6), some (pvI v1.2), some (pvI y32)] [] (true, n, e, σ33) out := by
  intro F
  induction F with
  | zero =>
    intro _ _ _ h
    intro _
    rw [f_C_write_176] at h
    cases h
  | succ F ih =>
    intro y32 σ33 j42 h hx
    rw [f_C_write_176] at h
    refine go_iload (pc' := 178) dX10_write_176 rfl rfl ?_
    refine go_aload_n (pc' := 179) dX10_write_178 rfl rfl (Nat.le_of_ble_eq_true rfl) ?_
    refine go_getR (k' := 6) (L0 := 0) (P' := 116) (pc' := 182) dX10_write_179 rfl rf_10_51 rfl rfl (by omega) ?_
    refine go_getI (pc' := 185) dX10_write_182 rfl rf_10_287 rfl ?_
    refine go_icmp_ge (t := 220) (pc' := 188) dX10_write_185 rfl rfl (fun c41 => ?_) (fun c41 => ?_)
    · rw [if_pos (show (σ33 116 9) ≤ y32 from c41)] at h
      cases h
      exact hx
    · rw [if_neg (show ¬ ((σ33 116 9) ≤ y32) from c41)] at h
      refine go_aload_n (pc' := 189) dX10_write_188 rfl rfl (Nat.le_of_ble_eq_true rfl) ?_
      refine go_getR (k' := 8) (L0 := 0) (P' := 112) (pc' := 192) dX10_write_189 rfl rf_10_42 rfl rfl (by omega) ?_
      refine go_iload (pc' := 194) dX10_write_192 rfl rfl ?_
      refine go_aload_n (pc' := 195) dX10_write_194 rfl rfl (Nat.le_of_ble_eq_true rfl) ?_
      refine go_getR (k' := 1) (L0 := 0) (P' := 101) (pc' := 198) dX10_write_195 rfl rf_10_28 rfl rfl (by omega) ?_
      refine go_aload_n (pc' := 199) dX10_write_198 rfl rfl (Nat.le_of_ble_eq_true rfl) ?_
      refine go_getR (k' := 6) (L0 := 0) (P' := 116) (pc' := 202) dX10_write_199 rfl rf_10_51 rfl rfl (by omega) ?_
      refine go_iload (pc' := 204) dX10_write_202 rfl rfl ?_
      obtain ⟨v34, k35, h⟩ := bd h
      have k35 := l_R_rowAt (d + 6) n e σ33 y32 _ k35
      refine go_call (kc := 147) (Mc := mt147) (v := some (pvI v34)) (w' := (true, n, e, σ33)) (pc' := 207) (st' := [pvI v34, pvR 1 0 101, pvI y32, pvR 8 0 112]) [pvR 6 0 116, pvI y32] [pvR 1 0 101, pvI y32, pvR 8 0 112] (Or.inl rfl) dX10_write_204 rfl rm_10_298 mtE147 rfl rfl rfl (Nat.le_of_ble_eq_true rfl) (Or.inr ⟨_, _, 116, rfl, Or.inl rfl⟩) k35 rfl ?_
      obtain ⟨v36, k37, h⟩ := bd h
      have k37 := l_FR_numberAt (d + 5) n e σ33 v34 _ k37
      refine go_call (kc := 78) (Mc := mt78) (v := some (pvI v36)) (w' := (true, n, e, σ33)) (pc' := 210) (st' := [pvI v36, pvI y32, pvR 8 0 112]) [pvR 1 0 101, pvI v34] [pvI y32, pvR 8 0 112] (Or.inl rfl) dX10_write_207 rfl rm_10_225 mtE78 rfl rfl rfl (Nat.le_of_ble_eq_true rfl) (Or.inr ⟨_, _, 101, rfl, Or.inl rfl⟩) k37 rfl ?_
      refine go_i2l (pc' := 211) dX10_write_210 rfl ?_
      obtain ⟨v38, k39, h⟩ := bd h
      have k39 := l_SP_own (d + 6) n e σ33 y32 v36 _ k39
      refine go_call (kc := 148) (Mc := mt148) (v := none) (w' := (true, n, e, v38)) (pc' := 214) (st' := []) [pvR 8 0 112, pvI y32, pvL v36] [] (Or.inl rfl) dX10_write_211 rfl rm_10_301 mtE148 rfl rfl rfl (Nat.le_of_ble_eq_true rfl) (Or.inr ⟨_, _, 112, rfl, Or.inl rfl⟩) k39 rfl ?_
      obtain ⟨g40, h⟩ := gd h
      refine go_iinc (L' := [some (pvR 10 0 0), some (pvI x1), some (pvI x2), some (pvI x3), some (pvI x4), some (pvI x5), some (pvI x6), some (pvI v1.2), some (pvI (y32 + 1))]) (pc' := 217) dX10_write_214 rfl rfl g40 rfl ?_
      refine go_goto (t := 176) dX10_write_217 rfl ?_
      exact ih (y32 + 1) v38 _ h hx

set_option maxRecDepth 10000 in
theorem l_C_write (d : Nat) (n e : Nat) (σ : Hp) (x1 : Int) (x2 : Int) (x3 : Int) (x4 : Int) (x5 : Int) (x6 : Int) (r : Nat × Int × Hp) (h : f_C_write σ x1 x2 x3 x4 x5 x6 = some r) : Ev (d + 8) 144 [pvR 10 0 0, pvI x1, pvI x2, pvI x3, pvI x4, pvI x5, pvI x6] (true, n, e, σ) (r.1, if r.1 = 0 then some (pvI r.2.1) else none, true, n, e + if r.1 = 0 then 0 else 1, r.2.2) := by
  unfold f_C_write at h
  refine Ev.of mtE144 rfl rfl rfl rfl ?_
  show Go none (Ev (d + 7)) mt144 0 [some (pvR 10 0 0), some (pvI x1), some (pvI x2), some (pvI x3), some (pvI x4), some (pvI x5), some (pvI x6), none, none] [] (true, n, e, σ) (r.1, if r.1 = 0 then some (pvI r.2.1) else none, true, n, e + if r.1 = 0 then 0 else 1, r.2.2)
  refine go_aload_n (pc' := 1) dX10_write_0 rfl rfl (Nat.le_of_ble_eq_true rfl) ?_
  refine go_iload_n (pc' := 2) dX10_write_1 rfl rfl ?_
  refine go_iload_n (pc' := 3) dX10_write_2 rfl rfl ?_
  refine go_iload_n (pc' := 4) dX10_write_3 rfl rfl ?_
  refine go_iload (pc' := 6) dX10_write_4 rfl rfl ?_
  obtain ⟨v1, k2, h⟩ := bd h
  by_cases c3 : v1.1 = 0
  · rw [if_pos c3] at h
    have k2 := l_C_existingCell (d + 4) n e σ x1 x2 x3 x4 _ k2
    rw [c3] at k2
    refine go_call (kc := 59) (Mc := mt59) (v := some (pvI v1.2)) (w' := (true, n, e, σ)) (pc' := 9) (st' := [pvI v1.2]) [pvR 10 0 0, pvI x1, pvI x2, pvI x3, pvI x4] [] (Or.inl rfl) dX10_write_6 rfl rm_10_205 mtE59 rfl rfl rfl (Nat.le_of_ble_eq_true rfl) (Or.inr ⟨_, _, 0, rfl, Or.inl rfl⟩) k2 rfl ?_
    refine go_istore (L' := [some (pvR 10 0 0), some (pvI x1), some (pvI x2), some (pvI x3), some (pvI x4), some (pvI x5), some (pvI x6), some (pvI v1.2), none]) (pc' := 11) dX10_write_9 rfl (Nat.le_of_ble_eq_true rfl) rfl ?_
    refine go_iload (pc' := 13) dX10_write_11 rfl rfl ?_
    refine go_iconst (pc' := 14) dX10_write_13 rfl (r32_c rfl) ?_
    refine go_ldc (pc' := 16) dX10_write_14 rfl (r32_c rfl) rc_10_166 ?_
    obtain ⟨v4, k5, h⟩ := bd h
    by_cases c6 : v4 = 0
    · rw [if_pos c6] at h
      have k5 := l_C_needRange (d + 6) n e σ x5 0 1000000 _ k5
      rw [c6] at k5
      refine go_call (kc := 17) (Mc := mt17) (v := none) (w' := (true, n, e, σ)) (pc' := 19) (st' := []) [pvI x5, pvI 0, pvI 1000000] [] (Or.inr (Or.inl rfl)) dX10_write_16 rfl rm_10_70 mtE17 rfl rfl rfl (Nat.le_of_ble_eq_true rfl) (Or.inl (by decide)) k5 rfl ?_
      refine go_iload (pc' := 21) dX10_write_19 rfl rfl ?_
      refine go_iconst (pc' := 22) dX10_write_21 rfl (r32_c rfl) ?_
      refine go_iconst (pc' := 23) dX10_write_22 rfl (r32_c rfl) ?_
      obtain ⟨v7, k8, h⟩ := bd h
      by_cases c9 : v7 = 0
      · rw [if_pos c9] at h
        have k8 := l_C_needRange (d + 6) n e σ x6 0 2 _ k8
        rw [c9] at k8
        refine go_call (kc := 17) (Mc := mt17) (v := none) (w' := (true, n, e, σ)) (pc' := 26) (st' := []) [pvI x6, pvI 0, pvI 2] [] (Or.inr (Or.inl rfl)) dX10_write_23 rfl rm_10_70 mtE17 rfl rfl rfl (Nat.le_of_ble_eq_true rfl) (Or.inl (by decide)) k8 rfl ?_
        refine go_aload_n (pc' := 27) dX10_write_26 rfl rfl (Nat.le_of_ble_eq_true rfl) ?_
        refine go_getR (k' := 4) (L0 := 0) (P' := 95) (pc' := 30) dX10_write_27 rfl rf_10_21 rfl rfl (by omega) ?_
        refine go_iload (pc' := 32) dX10_write_30 rfl rfl ?_
        obtain ⟨v10, k11, h⟩ := bd h
        have k11 := l_MS_kindOf (d + 5) n e σ x4 _ k11
        refine go_call (kc := 62) (Mc := mt62) (v := some (pvI v10)) (w' := (true, n, e, σ)) (pc' := 35) (st' := [pvI v10]) [pvR 4 0 95, pvI x4] [] (Or.inl rfl) dX10_write_32 rfl rm_10_210 mtE62 rfl rfl rfl (Nat.le_of_ble_eq_true rfl) (Or.inr ⟨_, _, 95, rfl, Or.inl rfl⟩) k11 rfl ?_
        obtain ⟨j12, k13, h⟩ := bd h
        have k13J : Go none (Ev (d + 7)) mt144 67 [some (pvR 10 0 0), some (pvI x1), some (pvI x2), some (pvI x3), some (pvI x4), some (pvI x5), some (pvI x6), some (pvI v1.2), none] [pvI j12] (true, n, e, σ) (r.1, if r.1 = 0 then some (pvI r.2.1) else none, true, n, e + if r.1 = 0 then 0 else 1, r.2.2) := by
          obtain ⟨v20, k21, h⟩ := bd h
          by_cases c22 : v20 = 0
          · rw [if_pos c22] at h
            have k21 := l_C_need (d + 6) n e σ j12 _ k21
            rw [c22] at k21
            refine go_call (kc := 19) (Mc := mt19) (v := none) (w' := (true, n, e, σ)) (pc' := 70) (st' := []) [pvI j12] [] (Or.inr (Or.inl rfl)) dX10_write_67 rfl rm_10_84 mtE19 rfl rfl rfl (Nat.le_of_ble_eq_true rfl) (Or.inl (by decide)) k21 rfl ?_
            refine go_aload_n (pc' := 71) dX10_write_70 rfl rfl (Nat.le_of_ble_eq_true rfl) ?_
            refine go_getR (k' := 6) (L0 := 0) (P' := 116) (pc' := 74) dX10_write_71 rfl rf_10_51 rfl rfl (by omega) ?_
            refine go_iload (pc' := 76) dX10_write_74 rfl rfl ?_
            refine go_iload (pc' := 78) dX10_write_76 rfl rfl ?_
            obtain ⟨v23, k24, h⟩ := bd h
            have k24 := l_R_gather (d + 3) n e σ v1.2 x4 _ k24
            refine go_call (kc := 98) (Mc := mt98) (v := none) (w' := (true, n, e, v23)) (pc' := 81) (st' := []) [pvR 6 0 116, pvI v1.2, pvI x4] [] (Or.inl rfl) dX10_write_78 rfl rm_10_284 mtE98 rfl rfl rfl (Nat.le_of_ble_eq_true rfl) (Or.inr ⟨_, _, 116, rfl, Or.inl rfl⟩) k24 rfl ?_
            refine go_aload_n (pc' := 82) dX10_write_81 rfl rfl (Nat.le_of_ble_eq_true rfl) ?_
            refine go_getR (k' := 6) (L0 := 0) (P' := 116) (pc' := 85) dX10_write_82 rfl rf_10_51 rfl rfl (by omega) ?_
            refine go_getI (pc' := 88) dX10_write_85 rfl rf_10_287 rfl ?_
            refine go_if_ne (t := 146) (pc' := 91) dX10_write_88 rfl rfl (fun c70 => ?_) (fun c70 => ?_)
            · rw [if_pos (show (v23 116 9) ≠ 0 from c70)] at h
              refine go_aload_n (pc' := 147) dX10_write_146 rfl rfl (Nat.le_of_ble_eq_true rfl) ?_
              refine go_getR (k' := 6) (L0 := 0) (P' := 116) (pc' := 150) dX10_write_147 rfl rf_10_51 rfl rfl (by omega) ?_
              obtain ⟨v25, k26, h⟩ := bd h
              have k26 := l_R_allWeighOne (d + 6) n e v23 _ k26
              refine go_call (kc := 145) (Mc := mt145) (v := some (pvI v25)) (w' := (true, n, e, v23)) (pc' := 153) (st' := [pvI v25]) [pvR 6 0 116] [] (Or.inl rfl) dX10_write_150 rfl rm_10_290 mtE145 rfl rfl rfl (Nat.le_of_ble_eq_true rfl) (Or.inr ⟨_, _, 116, rfl, Or.inl rfl⟩) k26 rfl ?_
              obtain ⟨v27, k28, h⟩ := bd h
              by_cases c29 : v27 = 0
              · rw [if_pos c29] at h
                have k28 := l_C_need (d + 6) n e v23 v25 _ k28
                rw [c29] at k28
                refine go_call (kc := 19) (Mc := mt19) (v := none) (w' := (true, n, e, v23)) (pc' := 156) (st' := []) [pvI v25] [] (Or.inr (Or.inl rfl)) dX10_write_153 rfl rm_10_84 mtE19 rfl rfl rfl (Nat.le_of_ble_eq_true rfl) (Or.inl (by decide)) k28 rfl ?_
                refine go_aload_n (pc' := 157) dX10_write_156 rfl rfl (Nat.le_of_ble_eq_true rfl) ?_
                refine go_getR (k' := 8) (L0 := 0) (P' := 112) (pc' := 160) dX10_write_157 rfl rf_10_42 rfl rfl (by omega) ?_
                refine go_aload_n (pc' := 161) dX10_write_160 rfl rfl (Nat.le_of_ble_eq_true rfl) ?_
                refine go_getR (k' := 6) (L0 := 0) (P' := 116) (pc' := 164) dX10_write_161 rfl rf_10_51 rfl rfl (by omega) ?_
                refine go_getI (pc' := 167) dX10_write_164 rfl rf_10_287 rfl ?_
                refine go_iload (pc' := 169) dX10_write_167 rfl rfl ?_
                refine go_i2l (pc' := 170) dX10_write_169 rfl ?_
                obtain ⟨v30, k31, h⟩ := bd h
                have k31 := l_SP_start (d + 6) n e v23 (v23 116 9) x5 _ k31
                refine go_call (kc := 146) (Mc := mt146) (v := none) (w' := (true, n, e, v30)) (pc' := 173) (st' := []) [pvR 8 0 112, pvI (v23 116 9), pvL x5] [] (Or.inl rfl) dX10_write_170 rfl rm_10_294 mtE146 rfl rfl rfl (Nat.le_of_ble_eq_true rfl) (Or.inr ⟨_, _, 112, rfl, Or.inl rfl⟩) k31 rfl ?_
                refine go_iconst (pc' := 174) dX10_write_173 rfl (r32_c rfl) ?_
                refine go_istore (L' := [some (pvR 10 0 0), some (pvI x1), some (pvI x2), some (pvI x3), some (pvI x4), some (pvI x5), some (pvI x6), some (pvI v1.2), some (pvI 0)]) (pc' := 176) dX10_write_174 rfl (Nat.le_of_ble_eq_true rfl) rfl ?_
                obtain ⟨j43, k44, h⟩ := bd h
                refine l_C_write_176 d n e x1 x2 x3 x4 x5 x6 v1 zFuel 0 v30 _ k44 ?_
                refine go_aload_n (pc' := 221) dX10_write_220 rfl rfl (Nat.le_of_ble_eq_true rfl) ?_
                refine go_getR (k' := 8) (L0 := 0) (P' := 112) (pc' := 224) dX10_write_221 rfl rf_10_42 rfl rfl (by omega) ?_
                refine go_iload (pc' := 226) dX10_write_224 rfl rfl ?_
                obtain ⟨v45, k46, h⟩ := bd h
                have k46 := l_SP_share (d + 4) n e j43.2 x6 _ k46
                refine go_call (kc := 149) (Mc := mt149) (v := none) (w' := (true, n, e, v45)) (pc' := 229) (st' := []) [pvR 8 0 112, pvI x6] [] (Or.inl rfl) dX10_write_226 rfl rm_10_304 mtE149 rfl rfl rfl (Nat.le_of_ble_eq_true rfl) (Or.inr ⟨_, _, 112, rfl, Or.inl rfl⟩) k46 rfl ?_
                refine go_aload_n (pc' := 230) dX10_write_229 rfl rfl (Nat.le_of_ble_eq_true rfl) ?_
                refine go_getR (k' := 8) (L0 := 0) (P' := 112) (pc' := 233) dX10_write_230 rfl rf_10_42 rfl rfl (by omega) ?_
                obtain ⟨v47, k48, h⟩ := bd h
                have k48 := l_SP_inRange (d + 6) n e v45 _ k48
                refine go_call (kc := 154) (Mc := mt154) (v := some (pvI v47)) (w' := (true, n, e, v45)) (pc' := 236) (st' := [pvI v47]) [pvR 8 0 112] [] (Or.inl rfl) dX10_write_233 rfl rm_10_307 mtE154 rfl rfl rfl (Nat.le_of_ble_eq_true rfl) (Or.inr ⟨_, _, 112, rfl, Or.inl rfl⟩) k48 rfl ?_
                obtain ⟨v49, k50, h⟩ := bd h
                by_cases c51 : v49 = 0
                · rw [if_pos c51] at h
                  have k50 := l_C_need (d + 6) n e v45 v47 _ k50
                  rw [c51] at k50
                  refine go_call (kc := 19) (Mc := mt19) (v := none) (w' := (true, n, e, v45)) (pc' := 239) (st' := []) [pvI v47] [] (Or.inr (Or.inl rfl)) dX10_write_236 rfl rm_10_84 mtE19 rfl rfl rfl (Nat.le_of_ble_eq_true rfl) (Or.inl (by decide)) k50 rfl ?_
                  refine go_aload_n (pc' := 240) dX10_write_239 rfl rfl (Nat.le_of_ble_eq_true rfl) ?_
                  obtain ⟨v52, k53, h⟩ := bd h
                  have k53 := l_C_writeShares (d + 0) n e v45 _ k53
                  refine go_call (kc := 155) (Mc := mt155) (v := some (pvI v52.1)) (w' := (true, n, e, v52.2)) (pc' := 243) (st' := [pvI v52.1]) [pvR 10 0 0] [] (Or.inl rfl) dX10_write_240 rfl rm_10_310 mtE155 rfl rfl rfl (Nat.le_of_ble_eq_true rfl) (Or.inr ⟨_, _, 0, rfl, Or.inl rfl⟩) k53 rfl ?_
                  cases h
                  exact go_iret dX10_write_243 rfl rfl
                · rw [if_neg c51] at h
                  obtain ⟨g54, h⟩ := gd h
                  cases h
                  have k50 := l_C_need (d + 6) n e v45 v47 _ k50
                  simp only [if_neg c51] at k50 ⊢
                  exact go_callX (kc := 19) (Mc := mt19) [pvI v47] [] (Or.inr rfl) dX10_write_236 rm_10_84 mtE19 rfl rfl rfl (Nat.le_of_ble_eq_true rfl) (Or.inl (by decide)) rfl c51 g54 k50 rfl
              · rw [if_neg c29] at h
                obtain ⟨g55, h⟩ := gd h
                cases h
                have k28 := l_C_need (d + 6) n e v23 v25 _ k28
                simp only [if_neg c29] at k28 ⊢
                exact go_callX (kc := 19) (Mc := mt19) [pvI v25] [] (Or.inr rfl) dX10_write_153 rm_10_84 mtE19 rfl rfl rfl (Nat.le_of_ble_eq_true rfl) (Or.inl (by decide)) rfl c29 g55 k28 rfl
            · rw [if_neg (show ¬ ((v23 116 9) ≠ 0) from c70)] at h
              refine go_aload_n (pc' := 92) dX10_write_91 rfl rfl (Nat.le_of_ble_eq_true rfl) ?_
              refine go_getR (k' := 7) (L0 := 0) (P' := 1) (pc' := 95) dX10_write_92 rfl rf_10_12 rfl rfl (by omega) ?_
              refine go_iload (pc' := 97) dX10_write_95 rfl rfl ?_
              obtain ⟨v56, k57, h⟩ := bd h
              have k57 := l_S_isPlain (d + 4) n e v23 v1.2 _ k57
              refine go_call (kc := 60) (Mc := mt60) (v := some (pvI v56)) (w' := (true, n, e, v23)) (pc' := 100) (st' := [pvI v56]) [pvR 7 0 1, pvI v1.2] [] (Or.inl rfl) dX10_write_97 rfl rm_10_209 mtE60 rfl rfl rfl (Nat.le_of_ble_eq_true rfl) (Or.inr ⟨_, _, 1, rfl, Or.inl rfl⟩) k57 rfl ?_
              obtain ⟨j58, k59, h⟩ := bd h
              have k59J : Go none (Ev (d + 7)) mt144 120 [some (pvR 10 0 0), some (pvI x1), some (pvI x2), some (pvI x3), some (pvI x4), some (pvI x5), some (pvI x6), some (pvI v1.2), none] [pvI j58] (true, n, e, v23) (r.1, if r.1 = 0 then some (pvI r.2.1) else none, true, n, e + if r.1 = 0 then 0 else 1, r.2.2) := by
                obtain ⟨v61, k62, h⟩ := bd h
                by_cases c63 : v61 = 0
                · rw [if_pos c63] at h
                  have k62 := l_C_need (d + 6) n e v23 j58 _ k62
                  rw [c63] at k62
                  refine go_call (kc := 19) (Mc := mt19) (v := none) (w' := (true, n, e, v23)) (pc' := 123) (st' := []) [pvI j58] [] (Or.inr (Or.inl rfl)) dX10_write_120 rfl rm_10_84 mtE19 rfl rfl rfl (Nat.le_of_ble_eq_true rfl) (Or.inl (by decide)) k62 rfl ?_
                  refine go_aload_n (pc' := 124) dX10_write_123 rfl rfl (Nat.le_of_ble_eq_true rfl) ?_
                  refine go_getR (k' := 1) (L0 := 0) (P' := 101) (pc' := 127) dX10_write_124 rfl rf_10_28 rfl rfl (by omega) ?_
                  refine go_iload (pc' := 129) dX10_write_127 rfl rfl ?_
                  refine go_iload (pc' := 131) dX10_write_129 rfl rfl ?_
                  refine go_iload (pc' := 133) dX10_write_131 rfl rfl ?_
                  obtain ⟨v64, k65, h⟩ := bd h
                  have k65 := l_FR_add (d + 6) n e v23 v1.2 x4 x5 _ k65
                  refine go_call (kc := 64) (Mc := mt64) (v := none) (w' := (true, n, e, v64)) (pc' := 136) (st' := []) [pvR 1 0 101, pvI v1.2, pvI x4, pvI x5] [] (Or.inl rfl) dX10_write_133 rfl rm_10_215 mtE64 rfl rfl rfl (Nat.le_of_ble_eq_true rfl) (Or.inr ⟨_, _, 101, rfl, Or.inl rfl⟩) k65 rfl ?_
                  refine go_aload_n (pc' := 137) dX10_write_136 rfl rfl (Nat.le_of_ble_eq_true rfl) ?_
                  refine go_iload (pc' := 139) dX10_write_137 rfl rfl ?_
                  refine go_iload (pc' := 141) dX10_write_139 rfl rfl ?_
                  obtain ⟨v66, k67, h⟩ := bd h
                  have k67 := l_C_dropFor (d + 2) n e v64 v1.2 x4 _ k67
                  refine go_call (kc := 65) (Mc := mt65) (v := none) (w' := (true, n, e, v66)) (pc' := 144) (st' := []) [pvR 10 0 0, pvI v1.2, pvI x4] [] (Or.inl rfl) dX10_write_141 rfl rm_10_217 mtE65 rfl rfl rfl (Nat.le_of_ble_eq_true rfl) (Or.inr ⟨_, _, 0, rfl, Or.inl rfl⟩) k67 rfl ?_
                  refine go_iconst (pc' := 145) dX10_write_144 rfl (r32_c rfl) ?_
                  cases h
                  exact go_iret dX10_write_145 rfl rfl
                · rw [if_neg c63] at h
                  obtain ⟨g68, h⟩ := gd h
                  cases h
                  have k62 := l_C_need (d + 6) n e v23 j58 _ k62
                  simp only [if_neg c63] at k62 ⊢
                  exact go_callX (kc := 19) (Mc := mt19) [pvI j58] [] (Or.inr rfl) dX10_write_120 rm_10_84 mtE19 rfl rfl rfl (Nat.le_of_ble_eq_true rfl) (Or.inl (by decide)) rfl c63 g68 k62 rfl
              clear h
              have h := k59
              refine go_if_eq (t := 119) (pc' := 103) dX10_write_100 rfl rfl (fun c69 => ?_) (fun c69 => ?_)
              · rw [if_pos (show v56 = 0 from c69)] at h
                refine go_iconst (pc' := 120) dX10_write_119 rfl (r32_c rfl) ?_
                cases h
                exact k59J
              · rw [if_neg (show ¬ (v56 = 0) from c69)] at h
                refine go_aload_n (pc' := 104) dX10_write_103 rfl rfl (Nat.le_of_ble_eq_true rfl) ?_
                refine go_getR (k' := 1) (L0 := 0) (P' := 101) (pc' := 107) dX10_write_104 rfl rf_10_28 rfl rfl (by omega) ?_
                refine go_getI (pc' := 110) dX10_write_107 rfl rf_10_214 rfl ?_
                refine go_bipush (pc' := 112) dX10_write_110 rfl (r32_c rfl) (by decide) ?_
                refine go_icmp_ge (t := 119) (pc' := 115) dX10_write_112 rfl rfl (fun c60 => ?_) (fun c60 => ?_)
                · rw [if_pos (show 50 ≤ (v23 101 0) from c60)] at h
                  refine go_iconst (pc' := 120) dX10_write_119 rfl (r32_c rfl) ?_
                  cases h
                  exact k59J
                · rw [if_neg (show ¬ (50 ≤ (v23 101 0)) from c60)] at h
                  refine go_iconst (pc' := 116) dX10_write_115 rfl (r32_c rfl) ?_
                  refine go_goto (t := 120) dX10_write_116 rfl ?_
                  cases h
                  exact k59J
          · rw [if_neg c22] at h
            obtain ⟨g71, h⟩ := gd h
            cases h
            have k21 := l_C_need (d + 6) n e σ j12 _ k21
            simp only [if_neg c22] at k21 ⊢
            exact go_callX (kc := 19) (Mc := mt19) [pvI j12] [] (Or.inr rfl) dX10_write_67 rm_10_84 mtE19 rfl rfl rfl (Nat.le_of_ble_eq_true rfl) (Or.inl (by decide)) rfl c22 g71 k21 rfl
        clear h
        have h := k13
        refine go_if_ne (t := 66) (pc' := 38) dX10_write_35 rfl rfl (fun c72 => ?_) (fun c72 => ?_)
        · rw [if_pos (show v10 ≠ 0 from c72)] at h
          refine go_iconst (pc' := 67) dX10_write_66 rfl (r32_c rfl) ?_
          cases h
          exact k13J
        · rw [if_neg (show ¬ (v10 ≠ 0) from c72)] at h
          refine go_aload_n (pc' := 39) dX10_write_38 rfl rfl (Nat.le_of_ble_eq_true rfl) ?_
          refine go_getR (k' := 7) (L0 := 0) (P' := 1) (pc' := 42) dX10_write_39 rfl rf_10_12 rfl rfl (by omega) ?_
          refine go_iload (pc' := 44) dX10_write_42 rfl rfl ?_
          obtain ⟨v14, k15, h⟩ := bd h
          have k15 := l_S_isSeen (d + 5) n e σ v1.2 _ k15
          refine go_call (kc := 74) (Mc := mt74) (v := some (pvI v14)) (w' := (true, n, e, σ)) (pc' := 47) (st' := [pvI v14]) [pvR 7 0 1, pvI v1.2] [] (Or.inl rfl) dX10_write_44 rfl rm_10_231 mtE74 rfl rfl rfl (Nat.le_of_ble_eq_true rfl) (Or.inr ⟨_, _, 1, rfl, Or.inl rfl⟩) k15 rfl ?_
          refine go_if_eq (t := 66) (pc' := 50) dX10_write_47 rfl rfl (fun c19 => ?_) (fun c19 => ?_)
          · rw [if_pos (show v14 = 0 from c19)] at h
            refine go_iconst (pc' := 67) dX10_write_66 rfl (r32_c rfl) ?_
            cases h
            exact k13J
          · rw [if_neg (show ¬ (v14 = 0) from c19)] at h
            refine go_aload_n (pc' := 51) dX10_write_50 rfl rfl (Nat.le_of_ble_eq_true rfl) ?_
            refine go_getR (k' := 7) (L0 := 0) (P' := 1) (pc' := 54) dX10_write_51 rfl rf_10_12 rfl rfl (by omega) ?_
            refine go_iload (pc' := 56) dX10_write_54 rfl rfl ?_
            obtain ⟨v16, k17, h⟩ := bd h
            have k17 := l_S_isCalculated (d + 3) n e σ v1.2 _ k17
            refine go_call (kc := 70) (Mc := mt70) (v := some (pvI v16)) (w' := (true, n, e, σ)) (pc' := 59) (st' := [pvI v16]) [pvR 7 0 1, pvI v1.2] [] (Or.inl rfl) dX10_write_56 rfl rm_10_281 mtE70 rfl rfl rfl (Nat.le_of_ble_eq_true rfl) (Or.inr ⟨_, _, 1, rfl, Or.inl rfl⟩) k17 rfl ?_
            refine go_if_ne (t := 66) (pc' := 62) dX10_write_59 rfl rfl (fun c18 => ?_) (fun c18 => ?_)
            · rw [if_pos (show v16 ≠ 0 from c18)] at h
              refine go_iconst (pc' := 67) dX10_write_66 rfl (r32_c rfl) ?_
              cases h
              exact k13J
            · rw [if_neg (show ¬ (v16 ≠ 0) from c18)] at h
              refine go_iconst (pc' := 63) dX10_write_62 rfl (r32_c rfl) ?_
              refine go_goto (t := 67) dX10_write_63 rfl ?_
              cases h
              exact k13J
      · rw [if_neg c9] at h
        obtain ⟨g73, h⟩ := gd h
        cases h
        have k8 := l_C_needRange (d + 6) n e σ x6 0 2 _ k8
        simp only [if_neg c9] at k8 ⊢
        exact go_callX (kc := 17) (Mc := mt17) [pvI x6, pvI 0, pvI 2] [] (Or.inr rfl) dX10_write_23 rm_10_70 mtE17 rfl rfl rfl (Nat.le_of_ble_eq_true rfl) (Or.inl (by decide)) rfl c9 g73 k8 rfl
    · rw [if_neg c6] at h
      obtain ⟨g74, h⟩ := gd h
      cases h
      have k5 := l_C_needRange (d + 6) n e σ x5 0 1000000 _ k5
      simp only [if_neg c6] at k5 ⊢
      exact go_callX (kc := 17) (Mc := mt17) [pvI x5, pvI 0, pvI 1000000] [] (Or.inr rfl) dX10_write_16 rm_10_70 mtE17 rfl rfl rfl (Nat.le_of_ble_eq_true rfl) (Or.inl (by decide)) rfl c6 g74 k5 rfl
  · rw [if_neg c3] at h
    obtain ⟨g75, h⟩ := gd h
    cases h
    have k2 := l_C_existingCell (d + 4) n e σ x1 x2 x3 x4 _ k2
    simp only [if_neg c3] at k2 ⊢
    exact go_callX (kc := 59) (Mc := mt59) [pvR 10 0 0, pvI x1, pvI x2, pvI x3, pvI x4] [] (Or.inl rfl) dX10_write_6 rm_10_205 mtE59 rfl rfl rfl (Nat.le_of_ble_eq_true rfl) (Or.inr ⟨_, _, 0, rfl, Or.inl rfl⟩) rfl c3 g75 k2 rfl

set_option maxRecDepth 10000 in
theorem l_L_writes (d : Nat) (n e : Nat) (σ : Hp) (x2 : Int) (x3 : Int) (x4 : Int) (x5 : Int) (x6 : Int) (x7 : Int) (r : Int × Nat × Hp) (h : f_L_writes σ e x2 x3 x4 x5 x6 x7 = some r) : Ev (d + 9) 143 [pvR 10 0 0, pvI x2, pvI x3, pvI x4, pvI x5, pvI x6, pvI x7] (true, n, e, σ) (0, some (pvI r.1), true, n, r.2.1, r.2.2) := by
  unfold f_L_writes at h
  refine Ev.of mtE143 rfl rfl rfl rfl ?_
  show Go none (Ev (d + 8)) mt143 0 [some (pvR 10 0 0), some (pvI x2), some (pvI x3), some (pvI x4), some (pvI x5), some (pvI x6), some (pvI x7), none] [] (true, n, e, σ) (0, some (pvI r.1), true, n, r.2.1, r.2.2)
  refine go_aload_n (pc' := 1) dL_writes_0 rfl rfl (Nat.le_of_ble_eq_true rfl) ?_
  refine go_iload_n (pc' := 2) dL_writes_1 rfl rfl ?_
  refine go_iload_n (pc' := 3) dL_writes_2 rfl rfl ?_
  refine go_iload_n (pc' := 4) dL_writes_3 rfl rfl ?_
  refine go_iload (pc' := 6) dL_writes_4 rfl rfl ?_
  refine go_iload (pc' := 8) dL_writes_6 rfl rfl ?_
  refine go_iload (pc' := 10) dL_writes_8 rfl rfl ?_
  obtain ⟨v1, k2, h⟩ := bd h
  by_cases c3 : v1.1 = 0
  · rw [if_pos c3] at h
    have k2 := l_C_write (d + 0) n e σ x2 x3 x4 x5 x6 x7 _ k2
    rw [c3] at k2
    refine go_call (kc := 144) (Mc := mt144) (v := some (pvI v1.2.1)) (w' := (true, n, e, v1.2.2)) (pc' := 13) (st' := [pvI v1.2.1]) [pvR 10 0 0, pvI x2, pvI x3, pvI x4, pvI x5, pvI x6, pvI x7] [] (Or.inl rfl) dL_writes_10 rfl rm_12_42 mtE144 rfl rfl rfl (Nat.le_of_ble_eq_true rfl) (Or.inr ⟨_, _, 0, rfl, Or.inl rfl⟩) k2 rfl ?_
    cases h
    exact go_iret dL_writes_13 rfl rfl
  · rw [if_neg c3] at h
    by_cases c4 : v1.1 = 1
    · rw [if_pos c4] at h
      have k2 := l_C_write (d + 0) n e σ x2 x3 x4 x5 x6 x7 _ k2
      rw [c4] at k2
      refine go_callH (x := 1) (kc := 144) (Mc := mt144) (h := 14) (i := 7) (ln := 2) (w' := (true, n, (e + 1), v1.2.2)) (pc' := 16) (L' := [some (pvR 10 0 0), some (pvI x2), some (pvI x3), some (pvI x4), some (pvI x5), some (pvI x6), some (pvI x7), none]) [pvR 10 0 0, pvI x2, pvI x3, pvI x4, pvI x5, pvI x6, pvI x7] [] (Or.inl rfl) dL_writes_10 rm_12_42 mtE144 rfl rfl rfl (Nat.le_of_ble_eq_true rfl) (Or.inr ⟨_, _, 0, rfl, Or.inl rfl⟩) (by decide +kernel) (by decide) (by decide) (Or.inl ⟨dL_writes_14, rfl⟩) (Nat.le_of_ble_eq_true rfl) rfl rfl k2 ?_
      refine go_bipush (pc' := 18) dL_writes_16 rfl (r32_c rfl) (by decide) ?_
      cases h
      exact go_iret dL_writes_18 rfl rfl
    · rw [if_neg c4] at h
      by_cases c5 : v1.1 = 2
      · rw [if_pos c5] at h
        have k2 := l_C_write (d + 0) n e σ x2 x3 x4 x5 x6 x7 _ k2
        rw [c5] at k2
        refine go_callH (x := 2) (kc := 144) (Mc := mt144) (h := 19) (i := 7) (ln := 2) (w' := (true, n, (e + 1), v1.2.2)) (pc' := 21) (L' := [some (pvR 10 0 0), some (pvI x2), some (pvI x3), some (pvI x4), some (pvI x5), some (pvI x6), some (pvI x7), none]) [pvR 10 0 0, pvI x2, pvI x3, pvI x4, pvI x5, pvI x6, pvI x7] [] (Or.inl rfl) dL_writes_10 rm_12_42 mtE144 rfl rfl rfl (Nat.le_of_ble_eq_true rfl) (Or.inr ⟨_, _, 0, rfl, Or.inl rfl⟩) (by decide +kernel) (by decide) (by decide) (Or.inl ⟨dL_writes_19, rfl⟩) (Nat.le_of_ble_eq_true rfl) rfl rfl k2 ?_
        refine go_bipush (pc' := 23) dL_writes_21 rfl (r32_c rfl) (by decide) ?_
        cases h
        exact go_iret dL_writes_23 rfl rfl
      · rw [if_neg c5] at h
        by_cases c6 : v1.1 = 3
        · rw [if_pos c6] at h
          have k2 := l_C_write (d + 0) n e σ x2 x3 x4 x5 x6 x7 _ k2
          rw [c6] at k2
          refine go_callH (x := 3) (kc := 144) (Mc := mt144) (h := 24) (i := 7) (ln := 2) (w' := (true, n, (e + 1), v1.2.2)) (pc' := 26) (L' := [some (pvR 10 0 0), some (pvI x2), some (pvI x3), some (pvI x4), some (pvI x5), some (pvI x6), some (pvI x7), none]) [pvR 10 0 0, pvI x2, pvI x3, pvI x4, pvI x5, pvI x6, pvI x7] [] (Or.inl rfl) dL_writes_10 rm_12_42 mtE144 rfl rfl rfl (Nat.le_of_ble_eq_true rfl) (Or.inr ⟨_, _, 0, rfl, Or.inl rfl⟩) (by decide +kernel) (by decide) (by decide) (Or.inl ⟨dL_writes_24, rfl⟩) (Nat.le_of_ble_eq_true rfl) rfl rfl k2 ?_
          refine go_bipush (pc' := 28) dL_writes_26 rfl (r32_c rfl) (by decide) ?_
          cases h
          exact go_iret dL_writes_28 rfl rfl
        · rw [if_neg c6] at h
          cases h

set_option maxRecDepth 10000 in
theorem l_FR_save (d : Nat) (n e : Nat) (σ : Hp) (r : Hp) (h : f_FR_save σ = some r) : Ev (d + 1) 159 [pvR 1 0 101] (true, n, e, σ) (0, none, true, n, e, r) := by
  unfold f_FR_save at h
  refine Ev.of mtE159 rfl rfl rfl rfl ?_
  show Go none (Ev (d + 0)) mt159 0 [some (pvR 1 0 101)] [] (true, n, e, σ) (0, none, true, n, e, r)
  refine go_aload_n (pc' := 1) dX1_save_0 rfl rfl (Nat.le_of_ble_eq_true rfl) ?_
  refine go_iconst (pc' := 2) dX1_save_1 rfl (r32_c rfl) ?_
  obtain ⟨g1, h⟩ := gd h
  refine go_putZ (pc' := 5) dX1_save_2 rfl rf_1_38 rfl g1 ?_
  refine go_aload_n (pc' := 6) dX1_save_5 rfl rfl (Nat.le_of_ble_eq_true rfl) ?_
  refine go_aload_n (pc' := 7) dX1_save_6 rfl rfl (Nat.le_of_ble_eq_true rfl) ?_
  refine go_getI (pc' := 10) dX1_save_7 rfl rf_1_30 rfl ?_
  refine go_putI (pc' := 13) dX1_save_10 rfl rf_1_42 rfl ?_
  refine go_aload_n (pc' := 14) dX1_save_13 rfl rfl (Nat.le_of_ble_eq_true rfl) ?_
  refine go_getR (k' := 12) (L0 := 50) (P' := 102) (pc' := 17) dX1_save_14 rfl rf_1_9 rfl rfl (by omega) ?_
  refine go_iconst (pc' := 18) dX1_save_17 rfl (r32_c rfl) ?_
  refine go_aload_n (pc' := 19) dX1_save_18 rfl rfl (Nat.le_of_ble_eq_true rfl) ?_
  refine go_getR (k' := 12) (L0 := 50) (P' := 105) (pc' := 22) dX1_save_19 rfl rf_1_21 rfl rfl (by omega) ?_
  refine go_iconst (pc' := 23) dX1_save_22 rfl (r32_c rfl) ?_
  refine go_bipush (pc' := 25) dX1_save_23 rfl (r32_c rfl) (by decide) ?_
  obtain ⟨g2, h⟩ := gd h
  refine go_copy (pc' := 28) dX1_save_25 rfl rm_1_45 (Nat.le_of_ble_eq_true rfl) g2 ?_
  refine go_aload_n (pc' := 29) dX1_save_28 rfl rfl (Nat.le_of_ble_eq_true rfl) ?_
  refine go_getR (k' := 12) (L0 := 50) (P' := 103) (pc' := 32) dX1_save_29 rfl rf_1_15 rfl rfl (by omega) ?_
  refine go_iconst (pc' := 33) dX1_save_32 rfl (r32_c rfl) ?_
  refine go_aload_n (pc' := 34) dX1_save_33 rfl rfl (Nat.le_of_ble_eq_true rfl) ?_
  refine go_getR (k' := 12) (L0 := 50) (P' := 106) (pc' := 37) dX1_save_34 rfl rf_1_24 rfl rfl (by omega) ?_
  refine go_iconst (pc' := 38) dX1_save_37 rfl (r32_c rfl) ?_
  refine go_bipush (pc' := 40) dX1_save_38 rfl (r32_c rfl) (by decide) ?_
  obtain ⟨g3, h⟩ := gd h
  refine go_copy (pc' := 43) dX1_save_40 rfl rm_1_45 (Nat.le_of_ble_eq_true rfl) g3 ?_
  refine go_aload_n (pc' := 44) dX1_save_43 rfl rfl (Nat.le_of_ble_eq_true rfl) ?_
  refine go_getR (k' := 12) (L0 := 50) (P' := 104) (pc' := 47) dX1_save_44 rfl rf_1_18 rfl rfl (by omega) ?_
  refine go_iconst (pc' := 48) dX1_save_47 rfl (r32_c rfl) ?_
  refine go_aload_n (pc' := 49) dX1_save_48 rfl rfl (Nat.le_of_ble_eq_true rfl) ?_
  refine go_getR (k' := 12) (L0 := 50) (P' := 107) (pc' := 52) dX1_save_49 rfl rf_1_27 rfl rfl (by omega) ?_
  refine go_iconst (pc' := 53) dX1_save_52 rfl (r32_c rfl) ?_
  refine go_bipush (pc' := 55) dX1_save_53 rfl (r32_c rfl) (by decide) ?_
  obtain ⟨g4, h⟩ := gd h
  refine go_copy (pc' := 58) dX1_save_55 rfl rm_1_45 (Nat.le_of_ble_eq_true rfl) g4 ?_
  cases h
  exact go_vret dX1_save_58 rfl rfl

