/-! ===== links: each function is what its bytecode does ===== -/
set_option maxRecDepth 10000 in
theorem l_K_dropAll (d : Nat) (n e : Nat) (σ : Hp) (r : Hp) (h : f_K_dropAll σ = some r) : Ev (d + 1) 13 [pvR 3 0 108] (true, n, e, σ) (0, none, true, n, e, r) := by
  unfold f_K_dropAll at h
  refine Ev.of mtE13 rfl rfl rfl rfl ?_
  show Go none (Ev (d + 0)) mt13 0 [some (pvR 3 0 108)] [] (true, n, e, σ) (0, none, true, n, e, r)
  refine go_aload_n (pc' := 1) dX3_dropAll_0 rfl rfl (Nat.le_of_ble_eq_true rfl) ?_
  refine go_iconst (pc' := 2) dX3_dropAll_1 rfl (r32_c rfl) ?_
  refine go_putI (pc' := 5) dX3_dropAll_2 rfl rf_3_22 rfl ?_
  cases h
  exact go_vret dX3_dropAll_5 rfl rfl

set_option maxRecDepth 10000 in
theorem l_C_asNow (d : Nat) (n e : Nat) (σ : Hp) (x1 : Int) (r : Int × Hp) (h : f_C_asNow σ x1 = some r) : Ev (d + 2) 12 [pvR 10 0 0, pvI x1] (true, n, e, σ) (0, some (pvI r.1), true, n, e, r.2) := by
  unfold f_C_asNow at h
  refine Ev.of mtE12 rfl rfl rfl rfl ?_
  show Go none (Ev (d + 1)) mt12 0 [some (pvR 10 0 0), some (pvI x1), none] [] (true, n, e, σ) (0, some (pvI r.1), true, n, e, r.2)
  refine go_aload_n (pc' := 1) dX10_asNow_0 rfl rfl (Nat.le_of_ble_eq_true rfl) ?_
  refine go_getR (k' := 7) (L0 := 0) (P' := 1) (pc' := 4) dX10_asNow_1 rfl rf_10_12 rfl rfl (by omega) ?_
  refine go_getZ (pc' := 7) dX10_asNow_4 rfl rf_10_149 rfl ?_
  refine go_istore_n (L' := [some (pvR 10 0 0), some (pvI x1), some (pvI (σ 1 4))]) (pc' := 8) dX10_asNow_7 rfl (Nat.le_of_ble_eq_true rfl) rfl ?_
  refine go_aload_n (pc' := 9) dX10_asNow_8 rfl rfl (Nat.le_of_ble_eq_true rfl) ?_
  refine go_getR (k' := 7) (L0 := 0) (P' := 1) (pc' := 12) dX10_asNow_9 rfl rf_10_12 rfl rfl (by omega) ?_
  refine go_iload_n (pc' := 13) dX10_asNow_12 rfl rfl ?_
  obtain ⟨g1, h⟩ := gd h
  refine go_putZ (pc' := 16) dX10_asNow_13 rfl rf_10_149 rfl g1 ?_
  refine go_aload_n (pc' := 17) dX10_asNow_16 rfl rfl (Nat.le_of_ble_eq_true rfl) ?_
  refine go_getR (k' := 3) (L0 := 0) (P' := 108) (pc' := 20) dX10_asNow_17 rfl rf_10_35 rfl rfl (by omega) ?_
  obtain ⟨v2, k3, h⟩ := bd h
  have k3 := l_K_dropAll (d + 0) n e (hset σ 1 4 x1) _ k3
  refine go_call (kc := 13) (Mc := mt13) (v := none) (w' := (true, n, e, v2)) (pc' := 23) (st' := []) [pvR 3 0 108] [] (Or.inl rfl) dX10_asNow_20 rfl rm_10_105 mtE13 rfl rfl rfl (Nat.le_of_ble_eq_true rfl) (Or.inr ⟨_, _, 108, rfl, Or.inl rfl⟩) k3 rfl ?_
  refine go_iload_n (pc' := 24) dX10_asNow_23 rfl rfl ?_
  obtain ⟨g4, h⟩ := gd h
  cases h
  exact go_zret dX10_asNow_24 rfl g4 rfl

set_option maxRecDepth 10000 in
theorem l_C_totals (d : Nat) (n e : Nat) (σ : Hp) (x1 : Int) (r : Int × Hp) (h : f_C_totals σ x1 = some r) : Ev (d + 2) 14 [pvR 10 0 0, pvI x1] (true, n, e, σ) (0, some (pvI r.1), true, n, e, r.2) := by
  unfold f_C_totals at h
  refine Ev.of mtE14 rfl rfl rfl rfl ?_
  show Go none (Ev (d + 1)) mt14 0 [some (pvR 10 0 0), some (pvI x1), none] [] (true, n, e, σ) (0, some (pvI r.1), true, n, e, r.2)
  refine go_aload_n (pc' := 1) dX10_totals_0 rfl rfl (Nat.le_of_ble_eq_true rfl) ?_
  refine go_getR (k' := 7) (L0 := 0) (P' := 1) (pc' := 4) dX10_totals_1 rfl rf_10_12 rfl rfl (by omega) ?_
  refine go_getZ (pc' := 7) dX10_totals_4 rfl rf_10_190 rfl ?_
  refine go_istore_n (L' := [some (pvR 10 0 0), some (pvI x1), some (pvI (σ 1 5))]) (pc' := 8) dX10_totals_7 rfl (Nat.le_of_ble_eq_true rfl) rfl ?_
  refine go_aload_n (pc' := 9) dX10_totals_8 rfl rfl (Nat.le_of_ble_eq_true rfl) ?_
  refine go_getR (k' := 7) (L0 := 0) (P' := 1) (pc' := 12) dX10_totals_9 rfl rf_10_12 rfl rfl (by omega) ?_
  refine go_iload_n (pc' := 13) dX10_totals_12 rfl rfl ?_
  obtain ⟨g1, h⟩ := gd h
  refine go_putZ (pc' := 16) dX10_totals_13 rfl rf_10_190 rfl g1 ?_
  refine go_aload_n (pc' := 17) dX10_totals_16 rfl rfl (Nat.le_of_ble_eq_true rfl) ?_
  refine go_getR (k' := 3) (L0 := 0) (P' := 108) (pc' := 20) dX10_totals_17 rfl rf_10_35 rfl rfl (by omega) ?_
  obtain ⟨v2, k3, h⟩ := bd h
  have k3 := l_K_dropAll (d + 0) n e (hset σ 1 5 x1) _ k3
  refine go_call (kc := 13) (Mc := mt13) (v := none) (w' := (true, n, e, v2)) (pc' := 23) (st' := []) [pvR 3 0 108] [] (Or.inl rfl) dX10_totals_20 rfl rm_10_105 mtE13 rfl rfl rfl (Nat.le_of_ble_eq_true rfl) (Or.inr ⟨_, _, 108, rfl, Or.inl rfl⟩) k3 rfl ?_
  refine go_iload_n (pc' := 24) dX10_totals_23 rfl rfl ?_
  obtain ⟨g4, h⟩ := gd h
  cases h
  exact go_zret dX10_totals_24 rfl g4 rfl

set_option maxRecDepth 10000 in
theorem l_C_kept (d : Nat) (n e : Nat) (σ : Hp) (r : Int) (h : f_C_kept σ = some r) : Ev (d + 1) 15 [pvR 10 0 0] (true, n, e, σ) (0, some (pvI r), true, n, e, σ) := by
  unfold f_C_kept at h
  refine Ev.of mtE15 rfl rfl rfl rfl ?_
  show Go none (Ev (d + 0)) mt15 0 [some (pvR 10 0 0)] [] (true, n, e, σ) (0, some (pvI r), true, n, e, σ)
  refine go_aload_n (pc' := 1) dX10_kept_0 rfl rfl (Nat.le_of_ble_eq_true rfl) ?_
  refine go_getR (k' := 3) (L0 := 0) (P' := 108) (pc' := 4) dX10_kept_1 rfl rf_10_35 rfl rfl (by omega) ?_
  refine go_getI (pc' := 7) dX10_kept_4 rfl rf_10_252 rfl ?_
  cases h
  exact go_iret dX10_kept_7 rfl rfl

set_option maxRecDepth 10000 in
theorem l_C_hits (d : Nat) (n e : Nat) (σ : Hp) (r : Int) (h : f_C_hits σ = some r) : Ev (d + 1) 16 [pvR 10 0 0] (true, n, e, σ) (0, some (pvI r), true, n, e, σ) := by
  unfold f_C_hits at h
  refine Ev.of mtE16 rfl rfl rfl rfl ?_
  show Go none (Ev (d + 0)) mt16 0 [some (pvR 10 0 0)] [] (true, n, e, σ) (0, some (pvI r), true, n, e, σ)
  refine go_aload_n (pc' := 1) dX10_hits_0 rfl rfl (Nat.le_of_ble_eq_true rfl) ?_
  refine go_getR (k' := 3) (L0 := 0) (P' := 108) (pc' := 4) dX10_hits_1 rfl rf_10_35 rfl rfl (by omega) ?_
  refine go_getI (pc' := 7) dX10_hits_4 rfl rf_10_235 rfl ?_
  cases h
  exact go_iret dX10_hits_7 rfl rfl

set_option maxRecDepth 10000 in
theorem l_C_facts (d : Nat) (n e : Nat) (σ : Hp) (r : Int) (h : f_C_facts σ = some r) : Ev (d + 1) 17 [pvR 10 0 0] (true, n, e, σ) (0, some (pvI r), true, n, e, σ) := by
  unfold f_C_facts at h
  refine Ev.of mtE17 rfl rfl rfl rfl ?_
  show Go none (Ev (d + 0)) mt17 0 [some (pvR 10 0 0)] [] (true, n, e, σ) (0, some (pvI r), true, n, e, σ)
  refine go_aload_n (pc' := 1) dX10_facts_0 rfl rfl (Nat.le_of_ble_eq_true rfl) ?_
  refine go_getR (k' := 1) (L0 := 0) (P' := 101) (pc' := 4) dX10_facts_1 rfl rf_10_28 rfl rfl (by omega) ?_
  refine go_getI (pc' := 7) dX10_facts_4 rfl rf_10_214 rfl ?_
  cases h
  exact go_iret dX10_facts_7 rfl rfl

set_option maxRecDepth 10000 in
theorem l_S_dimension (d : Nat) (n e : Nat) (σ : Hp) (x1 : Int) (r : Nat) (h : f_S_dimension σ x1 = some r) : Ev (d + 1) 21 [pvR 7 0 1, pvI x1] (true, n, e, σ) (0, some (pvR 0 0 r), true, n, e, σ) := by
  unfold f_S_dimension at h
  refine Ev.of mtE21 rfl rfl rfl rfl ?_
  show Go none (Ev (d + 0)) mt21 0 [some (pvR 7 0 1), some (pvI x1)] [] (true, n, e, σ) (0, some (pvR 0 0 r), true, n, e, σ)
  refine go_iload_n (pc' := 1) dX7_dimension_0 rfl rfl ?_
  refine go_if_ne (t := 9) (pc' := 4) dX7_dimension_1 rfl rfl (fun c4 => ?_) (fun c4 => ?_)
  · rw [if_pos c4] at h
    refine go_iload_n (pc' := 10) dX7_dimension_9 rfl rfl ?_
    refine go_iconst (pc' := 11) dX7_dimension_10 rfl (r32_c rfl) ?_
    obtain ⟨j1, k2, h⟩ := bd h
    have k2J : Go none (Ev (d + 0)) mt21 25 [some (pvR 7 0 1), some (pvI x1)] [pvR 0 0 j1] (true, n, e, σ) (0, some (pvR 0 0 r), true, n, e, σ) := by
      cases h
      exact go_aret dX7_dimension_25 (Nat.le_of_ble_eq_true rfl) (Nat.ne_of_beq_eq_false rfl) rfl rfl
    clear h
    have h := k2
    refine go_icmp_ne (t := 21) (pc' := 14) dX7_dimension_11 rfl rfl (fun c3 => ?_) (fun c3 => ?_)
    · rw [if_pos c3] at h
      refine go_aload_n (pc' := 22) dX7_dimension_21 rfl rfl (Nat.le_of_ble_eq_true rfl) ?_
      refine go_getR (k' := 0) (L0 := 0) (P' := 62) (pc' := 25) dX7_dimension_22 rfl rf_7_21 rfl rfl (by omega) ?_
      cases h
      exact k2J
    · rw [if_neg c3] at h
      refine go_aload_n (pc' := 15) dX7_dimension_14 rfl rfl (Nat.le_of_ble_eq_true rfl) ?_
      refine go_getR (k' := 0) (L0 := 0) (P' := 32) (pc' := 18) dX7_dimension_15 rfl rf_7_18 rfl rfl (by omega) ?_
      refine go_goto (t := 25) dX7_dimension_18 rfl ?_
      cases h
      exact k2J
  · rw [if_neg c4] at h
    refine go_aload_n (pc' := 5) dX7_dimension_4 rfl rfl (Nat.le_of_ble_eq_true rfl) ?_
    refine go_getR (k' := 0) (L0 := 0) (P' := 2) (pc' := 8) dX7_dimension_5 rfl rf_7_12 rfl rfl (by omega) ?_
    cases h
    exact go_aret dX7_dimension_8 (Nat.le_of_ble_eq_true rfl) (Nat.ne_of_beq_eq_false rfl) rfl rfl

set_option maxRecDepth 10000 in
theorem l_C_existing (d : Nat) (n e : Nat) (σ : Hp) (x1 : Int) (r : Nat × Nat) (h : f_C_existing σ x1 = some r) : Ev (d + 2) 20 [pvR 10 0 0, pvI x1] (true, n, e, σ) (r.1, if r.1 = 0 then some (pvR 0 0 r.2) else none, true, n, e + if r.1 = 0 then 0 else 1, σ) := by
  unfold f_C_existing at h
  refine Ev.of mtE20 rfl rfl rfl rfl ?_
  show Go none (Ev (d + 1)) mt20 0 [some (pvR 10 0 0), some (pvI x1)] [] (true, n, e, σ) (r.1, if r.1 = 0 then some (pvR 0 0 r.2) else none, true, n, e + if r.1 = 0 then 0 else 1, σ)
  refine go_iload_n (pc' := 1) dX10_existing_0 rfl rfl ?_
  refine go_if_lt (t := 9) (pc' := 4) dX10_existing_1 rfl rfl (fun c4 => ?_) (fun c4 => ?_)
  · rw [if_pos c4] at h
    cases h
    exact go_throw (x := 1) (ic := 112) (ln := 3) (tx := "no such dimension") dX10_existing_9 rt_10_108 rfl rfl (Nat.le_of_ble_eq_true rfl) dX10_existing_12 (Or.inr ⟨dX10_existing_13, rfl⟩) dX10_existing_16 dX10_existing_19 (Or.inl ⟨rfl, rfl⟩) (by decide +kernel) rfl
  · rw [if_neg c4] at h
    refine go_iload_n (pc' := 5) dX10_existing_4 rfl rfl ?_
    refine go_iconst (pc' := 6) dX10_existing_5 rfl (r32_c rfl) ?_
    refine go_icmp_lt (t := 20) (pc' := 9) dX10_existing_6 rfl rfl (fun c3 => ?_) (fun c3 => ?_)
    · rw [if_pos c3] at h
      refine go_aload_n (pc' := 21) dX10_existing_20 rfl rfl (Nat.le_of_ble_eq_true rfl) ?_
      refine go_getR (k' := 7) (L0 := 0) (P' := 1) (pc' := 24) dX10_existing_21 rfl rf_10_12 rfl rfl (by omega) ?_
      refine go_iload_n (pc' := 25) dX10_existing_24 rfl rfl ?_
      obtain ⟨v1, k2, h⟩ := bd h
      have k2 := l_S_dimension (d + 0) n e σ x1 _ k2
      refine go_call (kc := 21) (Mc := mt21) (v := some (pvR 0 0 v1)) (w' := (true, n, e, σ)) (pc' := 28) (st' := [pvR 0 0 v1]) [pvR 7 0 1, pvI x1] [] (Or.inl rfl) dX10_existing_25 rfl rm_10_324 mtE21 rfl rfl rfl (Nat.le_of_ble_eq_true rfl) (Or.inr ⟨_, _, 1, rfl, Or.inl rfl⟩) k2 rfl ?_
      cases h
      exact go_aret dX10_existing_28 (Nat.le_of_ble_eq_true rfl) (Nat.ne_of_beq_eq_false rfl) rfl rfl
    · rw [if_neg c3] at h
      cases h
      exact go_throw (x := 1) (ic := 112) (ln := 3) (tx := "no such dimension") dX10_existing_9 rt_10_108 rfl rfl (Nat.le_of_ble_eq_true rfl) dX10_existing_12 (Or.inr ⟨dX10_existing_13, rfl⟩) dX10_existing_16 dX10_existing_19 (Or.inl ⟨rfl, rfl⟩) (by decide +kernel) rfl

set_option maxRecDepth 10000 in
theorem l_D_has (d : Nat) (n e : Nat) (σ : Hp) (p : Nat) (x1 : Int) (r : Int) (h : f_D_has σ p x1 = some r) : Ev (d + 1) 23 [pvR 0 0 p, pvI x1] (true, n, e, σ) (0, some (pvI r), true, n, e, σ) := by
  unfold f_D_has at h
  refine Ev.of mtE23 rfl rfl rfl rfl ?_
  show Go none (Ev (d + 0)) mt23 0 [some (pvR 0 0 p), some (pvI x1)] [] (true, n, e, σ) (0, some (pvI r), true, n, e, σ)
  refine go_iload_n (pc' := 1) dX0_has_0 rfl rfl ?_
  obtain ⟨j1, k2, h⟩ := bd h
  have k2J : Go none (Ev (d + 0)) mt23 23 [some (pvR 0 0 p), some (pvI x1)] [pvI j1] (true, n, e, σ) (0, some (pvI r), true, n, e, σ) := by
    obtain ⟨g5, h⟩ := gd h
    cases h
    exact go_zret dX0_has_23 rfl g5 rfl
  clear h
  have h := k2
  refine go_if_lt (t := 22) (pc' := 4) dX0_has_1 rfl rfl (fun c6 => ?_) (fun c6 => ?_)
  · rw [if_pos c6] at h
    refine go_iconst (pc' := 23) dX0_has_22 rfl (r32_c rfl) ?_
    cases h
    exact k2J
  · rw [if_neg c6] at h
    refine go_iload_n (pc' := 5) dX0_has_4 rfl rfl ?_
    refine go_aload_n (pc' := 6) dX0_has_5 rfl rfl (Nat.le_of_ble_eq_true rfl) ?_
    refine go_getI (pc' := 9) dX0_has_6 rfl rf_0_9 rfl ?_
    refine go_icmp_ge (t := 22) (pc' := 12) dX0_has_9 rfl rfl (fun c4 => ?_) (fun c4 => ?_)
    · rw [if_pos c4] at h
      refine go_iconst (pc' := 23) dX0_has_22 rfl (r32_c rfl) ?_
      cases h
      exact k2J
    · rw [if_neg c4] at h
      refine go_iload_n (pc' := 13) dX0_has_12 rfl rfl ?_
      refine go_bipush (pc' := 15) dX0_has_13 rfl (r32_c rfl) (by decide) ?_
      refine go_icmp_ge (t := 22) (pc' := 18) dX0_has_15 rfl rfl (fun c3 => ?_) (fun c3 => ?_)
      · rw [if_pos c3] at h
        refine go_iconst (pc' := 23) dX0_has_22 rfl (r32_c rfl) ?_
        cases h
        exact k2J
      · rw [if_neg c3] at h
        refine go_iconst (pc' := 19) dX0_has_18 rfl (r32_c rfl) ?_
        refine go_goto (t := 23) dX0_has_19 rfl ?_
        cases h
        exact k2J

set_option maxRecDepth 10000 in
theorem l_C_needMember (d : Nat) (n e : Nat) (σ : Hp) (p1 : Nat) (x2 : Int) (r : Nat) (h : f_C_needMember σ p1 x2 = some r) : Ev (d + 2) 22 [pvR 0 0 p1, pvI x2] (true, n, e, σ) (r, none, true, n, e + if r = 0 then 0 else 1, σ) := by
  unfold f_C_needMember at h
  refine Ev.of mtE22 rfl rfl rfl rfl ?_
  show Go none (Ev (d + 1)) mt22 0 [some (pvR 0 0 p1), some (pvI x2)] [] (true, n, e, σ) (r, none, true, n, e + if r = 0 then 0 else 1, σ)
  refine go_aload_n (pc' := 1) dX10_needMember_0 rfl rfl (Nat.le_of_ble_eq_true rfl) ?_
  refine go_iload_n (pc' := 2) dX10_needMember_1 rfl rfl ?_
  obtain ⟨v1, k2, h⟩ := bd h
  have k2 := l_D_has (d + 0) n e σ p1 x2 _ k2
  refine go_call (kc := 23) (Mc := mt23) (v := some (pvI v1)) (w' := (true, n, e, σ)) (pc' := 5) (st' := [pvI v1]) [pvR 0 0 p1, pvI x2] [] (Or.inl rfl) dX10_needMember_2 rfl rm_10_327 mtE23 rfl rfl rfl (Nat.le_of_ble_eq_true rfl) (Or.inr ⟨_, _, p1, rfl, Or.inl rfl⟩) k2 rfl ?_
  refine go_if_ne (t := 18) (pc' := 8) dX10_needMember_5 rfl rfl (fun c3 => ?_) (fun c3 => ?_)
  · rw [if_pos c3] at h
    cases h
    exact go_vret dX10_needMember_18 rfl rfl
  · rw [if_neg c3] at h
    cases h
    exact go_throw (x := 1) (ic := 112) (ln := 2) (tx := "no such member") dX10_needMember_8 rt_10_108 rfl rfl (Nat.le_of_ble_eq_true rfl) dX10_needMember_11 (Or.inl ⟨dX10_needMember_12, rfl⟩) dX10_needMember_14 dX10_needMember_17 (Or.inl ⟨rfl, rfl⟩) (by decide +kernel) rfl

set_option maxRecDepth 10000 in
theorem l_C_needRange (d : Nat) (n e : Nat) (σ : Hp) (x1 : Int) (x2 : Int) (x3 : Int) (r : Nat) (h : f_C_needRange σ x1 x2 x3 = some r) : Ev (d + 1) 24 [pvI x1, pvI x2, pvI x3] (true, n, e, σ) (r, none, true, n, e + if r = 0 then 0 else 1, σ) := by
  unfold f_C_needRange at h
  refine Ev.of mtE24 rfl rfl rfl rfl ?_
  show Go none (Ev (d + 0)) mt24 0 [some (pvI x1), some (pvI x2), some (pvI x3)] [] (true, n, e, σ) (r, none, true, n, e + if r = 0 then 0 else 1, σ)
  refine go_iload_n (pc' := 1) dX10_needRange_0 rfl rfl ?_
  refine go_iload_n (pc' := 2) dX10_needRange_1 rfl rfl ?_
  refine go_icmp_lt (t := 10) (pc' := 5) dX10_needRange_2 rfl rfl (fun c2 => ?_) (fun c2 => ?_)
  · rw [if_pos c2] at h
    cases h
    exact go_throw (x := 2) (ic := 274) (ln := 3) (tx := "out of range") dX10_needRange_10 rt_10_270 rfl rfl (Nat.le_of_ble_eq_true rfl) dX10_needRange_13 (Or.inr ⟨dX10_needRange_14, rfl⟩) dX10_needRange_17 dX10_needRange_20 (Or.inr (Or.inl ⟨rfl, rfl⟩)) (by decide +kernel) rfl
  · rw [if_neg c2] at h
    refine go_iload_n (pc' := 6) dX10_needRange_5 rfl rfl ?_
    refine go_iload_n (pc' := 7) dX10_needRange_6 rfl rfl ?_
    refine go_icmp_le (t := 21) (pc' := 10) dX10_needRange_7 rfl rfl (fun c1 => ?_) (fun c1 => ?_)
    · rw [if_pos c1] at h
      cases h
      exact go_vret dX10_needRange_21 rfl rfl
    · rw [if_neg c1] at h
      cases h
      exact go_throw (x := 2) (ic := 274) (ln := 3) (tx := "out of range") dX10_needRange_10 rt_10_270 rfl rfl (Nat.le_of_ble_eq_true rfl) dX10_needRange_13 (Or.inr ⟨dX10_needRange_14, rfl⟩) dX10_needRange_17 dX10_needRange_20 (Or.inr (Or.inl ⟨rfl, rfl⟩)) (by decide +kernel) rfl

set_option maxRecDepth 10000 in
theorem l_D_isPlain (d : Nat) (n e : Nat) (σ : Hp) (p : Nat) (x1 : Int) (r : Int) (h : f_D_isPlain σ p x1 = some r) : Ev (d + 2) 25 [pvR 0 0 p, pvI x1] (true, n, e, σ) (0, some (pvI r), true, n, e, σ) := by
  unfold f_D_isPlain at h
  refine Ev.of mtE25 rfl rfl rfl rfl ?_
  show Go none (Ev (d + 1)) mt25 0 [some (pvR 0 0 p), some (pvI x1)] [] (true, n, e, σ) (0, some (pvI r), true, n, e, σ)
  refine go_aload_n (pc' := 1) dX0_isPlain_0 rfl rfl (Nat.le_of_ble_eq_true rfl) ?_
  refine go_iload_n (pc' := 2) dX0_isPlain_1 rfl rfl ?_
  obtain ⟨v1, k2, h⟩ := bd h
  have k2 := l_D_has (d + 0) n e σ p x1 _ k2
  refine go_call (kc := 23) (Mc := mt23) (v := some (pvI v1)) (w' := (true, n, e, σ)) (pc' := 5) (st' := [pvI v1]) [pvR 0 0 p, pvI x1] [] (Or.inl rfl) dX0_isPlain_2 rfl rm_0_65 mtE23 rfl rfl rfl (Nat.le_of_ble_eq_true rfl) (Or.inr ⟨_, _, p, rfl, Or.inl rfl⟩) k2 rfl ?_
  obtain ⟨j3, k4, h⟩ := bd h
  have k4J : Go none (Ev (d + 1)) mt25 22 [some (pvR 0 0 p), some (pvI x1)] [pvI j3] (true, n, e, σ) (0, some (pvI r), true, n, e, σ) := by
    obtain ⟨g7, h⟩ := gd h
    cases h
    exact go_zret dX0_isPlain_22 rfl g7 rfl
  clear h
  have h := k4
  refine go_if_eq (t := 21) (pc' := 8) dX0_isPlain_5 rfl rfl (fun c8 => ?_) (fun c8 => ?_)
  · rw [if_pos c8] at h
    refine go_iconst (pc' := 22) dX0_isPlain_21 rfl (r32_c rfl) ?_
    cases h
    exact k4J
  · rw [if_neg c8] at h
    refine go_aload_n (pc' := 9) dX0_isPlain_8 rfl rfl (Nat.le_of_ble_eq_true rfl) ?_
    refine go_getR (k' := 12) (L0 := 12) (P' := (p + 5)) (pc' := 12) dX0_isPlain_9 rfl rf_0_22 rfl rfl (by omega) ?_
    refine go_iload_n (pc' := 13) dX0_isPlain_12 rfl rfl ?_
    obtain ⟨g5, h⟩ := gd h
    refine go_iald (pc' := 14) dX0_isPlain_13 rfl g5 ?_
    refine go_if_ne (t := 21) (pc' := 17) dX0_isPlain_14 rfl rfl (fun c6 => ?_) (fun c6 => ?_)
    · rw [if_pos c6] at h
      refine go_iconst (pc' := 22) dX0_isPlain_21 rfl (r32_c rfl) ?_
      cases h
      exact k4J
    · rw [if_neg c6] at h
      refine go_iconst (pc' := 18) dX0_isPlain_17 rfl (r32_c rfl) ?_
      refine go_goto (t := 22) dX0_isPlain_18 rfl ?_
      cases h
      exact k4J

set_option maxRecDepth 10000 in
theorem l_C_need (d : Nat) (n e : Nat) (σ : Hp) (x1 : Int) (r : Nat) (h : f_C_need σ x1 = some r) : Ev (d + 1) 26 [pvI x1] (true, n, e, σ) (r, none, true, n, e + if r = 0 then 0 else 1, σ) := by
  unfold f_C_need at h
  refine Ev.of mtE26 rfl rfl rfl rfl ?_
  show Go none (Ev (d + 0)) mt26 0 [some (pvI x1)] [] (true, n, e, σ) (r, none, true, n, e + if r = 0 then 0 else 1, σ)
  refine go_iload_n (pc' := 1) dX10_need_0 rfl rfl ?_
  refine go_if_ne (t := 15) (pc' := 4) dX10_need_1 rfl rfl (fun c1 => ?_) (fun c1 => ?_)
  · rw [if_pos c1] at h
    cases h
    exact go_vret dX10_need_15 rfl rfl
  · rw [if_neg c1] at h
    cases h
    exact go_throw (x := 3) (ic := 339) (ln := 3) (tx := "not as things stand") dX10_need_4 rt_10_335 rfl rfl (Nat.le_of_ble_eq_true rfl) dX10_need_7 (Or.inr ⟨dX10_need_8, rfl⟩) dX10_need_11 dX10_need_14 (Or.inr (Or.inr ⟨rfl, rfl⟩)) (by decide +kernel) rfl

set_option maxRecDepth 10000 in
theorem l_D_addKind (d : Nat) (n e : Nat) (σ : Hp) (p : Nat) (x1 : Int) (r : Int × Hp) (h : f_D_addKind σ p x1 = some r) : Ev (d + 1) 28 [pvR 0 0 p, pvI x1] (true, n, e, σ) (0, some (pvI r.1), true, n, e, r.2) := by
  unfold f_D_addKind at h
  refine Ev.of mtE28 rfl rfl rfl rfl ?_
  show Go none (Ev (d + 0)) mt28 0 [some (pvR 0 0 p), some (pvI x1)] [] (true, n, e, σ) (0, some (pvI r.1), true, n, e, r.2)
  refine go_aload_n (pc' := 1) dX0_addKind_0 rfl rfl (Nat.le_of_ble_eq_true rfl) ?_
  refine go_getI (pc' := 4) dX0_addKind_1 rfl rf_0_9 rfl ?_
  refine go_bipush (pc' := 6) dX0_addKind_4 rfl (r32_c rfl) (by decide) ?_
  refine go_icmp_lt (t := 11) (pc' := 9) dX0_addKind_6 rfl rfl (fun c4 => ?_) (fun c4 => ?_)
  · rw [if_pos c4] at h
    refine go_aload_n (pc' := 12) dX0_addKind_11 rfl rfl (Nat.le_of_ble_eq_true rfl) ?_
    refine go_getR (k' := 12) (L0 := 12) (P' := (p + 5)) (pc' := 15) dX0_addKind_12 rfl rf_0_22 rfl rfl (by omega) ?_
    refine go_aload_n (pc' := 16) dX0_addKind_15 rfl rfl (Nat.le_of_ble_eq_true rfl) ?_
    refine go_getI (pc' := 19) dX0_addKind_16 rfl rf_0_9 rfl ?_
    refine go_iload_n (pc' := 20) dX0_addKind_19 rfl rfl ?_
    obtain ⟨g1, h⟩ := gd h
    refine go_iast (pc' := 21) dX0_addKind_20 rfl g1 ?_
    refine go_aload_n (pc' := 22) dX0_addKind_21 rfl rfl (Nat.le_of_ble_eq_true rfl) ?_
    refine go_dup (pc' := 23) dX0_addKind_22 rfl (Nat.ne_of_beq_eq_false rfl) ?_
    refine go_getI (pc' := 26) dX0_addKind_23 rfl rf_0_9 rfl ?_
    refine go_iconst (pc' := 27) dX0_addKind_26 rfl (r32_c rfl) ?_
    obtain ⟨g2, h⟩ := gd h
    refine go_iadd (pc' := 28) dX0_addKind_27 rfl g2 ?_
    refine go_putI (pc' := 31) dX0_addKind_28 rfl rf_0_9 rfl ?_
    refine go_aload_n (pc' := 32) dX0_addKind_31 rfl rfl (Nat.le_of_ble_eq_true rfl) ?_
    refine go_getI (pc' := 35) dX0_addKind_32 rfl rf_0_9 rfl ?_
    refine go_iconst (pc' := 36) dX0_addKind_35 rfl (r32_c rfl) ?_
    obtain ⟨g3, h⟩ := gd h
    refine go_isub (pc' := 37) dX0_addKind_36 rfl g3 ?_
    cases h
    exact go_iret dX0_addKind_37 rfl rfl
  · rw [if_neg c4] at h
    refine go_iconst (pc' := 10) dX0_addKind_9 rfl (r32_c rfl) ?_
    cases h
    exact go_iret dX0_addKind_10 rfl rfl

