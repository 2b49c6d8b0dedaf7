/-! ===== links: each function is what its bytecode does ===== -/
set_option maxRecDepth 10000 in
theorem l_S_dimension (d : Nat) (n e : Nat) (σ : Hp) (x1 : Int) (r : Nat) (h : f_S_dimension σ x1 = some r) : Ev (d + 1) 14 [pvR 7 0 1, pvI x1] (true, n, e, σ) (0, some (pvR 0 0 r), true, n, e, σ) := by
  unfold f_S_dimension at h
  refine Ev.of mtE14 rfl rfl rfl rfl ?_
  show Go none (Ev (d + 0)) mt14 0 [some (pvR 7 0 1), some (pvI x1)] [] (true, n, e, σ) (0, some (pvR 0 0 r), true, n, e, σ)
  refine go_iload_n (pc' := 1) dX7_dimension_0 rfl rfl ?_
  refine go_if_ne (t := 9) (pc' := 4) dX7_dimension_1 rfl rfl (fun c4 => ?_) (fun c4 => ?_)
  · rw [if_pos (show x1 ≠ 0 from c4)] at h
    refine go_iload_n (pc' := 10) dX7_dimension_9 rfl rfl ?_
    refine go_iconst (pc' := 11) dX7_dimension_10 rfl (r32_c rfl) ?_
    obtain ⟨j1, k2, h⟩ := bd h
    have k2J : Go none (Ev (d + 0)) mt14 25 [some (pvR 7 0 1), some (pvI x1)] [pvR 0 0 j1] (true, n, e, σ) (0, some (pvR 0 0 r), true, n, e, σ) := by
      cases h
      exact go_aret dX7_dimension_25 (Nat.le_of_ble_eq_true rfl) (Nat.ne_of_beq_eq_false rfl) rfl rfl
    clear h
    have h := k2
    refine go_icmp_ne (t := 21) (pc' := 14) dX7_dimension_11 rfl rfl (fun c3 => ?_) (fun c3 => ?_)
    · rw [if_pos (show x1 ≠ 1 from c3)] at h
      refine go_aload_n (pc' := 22) dX7_dimension_21 rfl rfl (Nat.le_of_ble_eq_true rfl) ?_
      refine go_getR (k' := 0) (L0 := 0) (P' := 62) (pc' := 25) dX7_dimension_22 rfl rf_7_21 rfl rfl (by omega) ?_
      cases h
      exact k2J
    · rw [if_neg (show ¬ (x1 ≠ 1) from c3)] at h
      refine go_aload_n (pc' := 15) dX7_dimension_14 rfl rfl (Nat.le_of_ble_eq_true rfl) ?_
      refine go_getR (k' := 0) (L0 := 0) (P' := 32) (pc' := 18) dX7_dimension_15 rfl rf_7_18 rfl rfl (by omega) ?_
      refine go_goto (t := 25) dX7_dimension_18 rfl ?_
      cases h
      exact k2J
  · rw [if_neg (show ¬ (x1 ≠ 0) from c4)] at h
    refine go_aload_n (pc' := 5) dX7_dimension_4 rfl rfl (Nat.le_of_ble_eq_true rfl) ?_
    refine go_getR (k' := 0) (L0 := 0) (P' := 2) (pc' := 8) dX7_dimension_5 rfl rf_7_12 rfl rfl (by omega) ?_
    cases h
    exact go_aret dX7_dimension_8 (Nat.le_of_ble_eq_true rfl) (Nat.ne_of_beq_eq_false rfl) rfl rfl

set_option maxRecDepth 10000 in
theorem l_C_existing (d : Nat) (n e : Nat) (σ : Hp) (x1 : Int) (r : Nat × Nat) (h : f_C_existing σ x1 = some r) : Ev (d + 2) 13 [pvR 10 0 0, pvI x1] (true, n, e, σ) (r.1, if r.1 = 0 then some (pvR 0 0 r.2) else none, true, n, e + if r.1 = 0 then 0 else 1, σ) := by
  unfold f_C_existing at h
  refine Ev.of mtE13 rfl rfl rfl rfl ?_
  show Go none (Ev (d + 1)) mt13 0 [some (pvR 10 0 0), some (pvI x1)] [] (true, n, e, σ) (r.1, if r.1 = 0 then some (pvR 0 0 r.2) else none, true, n, e + if r.1 = 0 then 0 else 1, σ)
  refine go_iload_n (pc' := 1) dX10_existing_0 rfl rfl ?_
  refine go_if_lt (t := 9) (pc' := 4) dX10_existing_1 rfl rfl (fun c4 => ?_) (fun c4 => ?_)
  · rw [if_pos (show x1 < 0 from c4)] at h
    cases h
    exact go_throw (x := 1) (ic := 112) (ln := 3) (tx := "no such dimension") dX10_existing_9 rt_10_108 rfl rfl (Nat.le_of_ble_eq_true rfl) dX10_existing_12 (Or.inr ⟨dX10_existing_13, rfl⟩) dX10_existing_16 dX10_existing_19 (Or.inl ⟨rfl, rfl⟩) (by decide +kernel) rfl
  · rw [if_neg (show ¬ (x1 < 0) from c4)] at h
    refine go_iload_n (pc' := 5) dX10_existing_4 rfl rfl ?_
    refine go_iconst (pc' := 6) dX10_existing_5 rfl (r32_c rfl) ?_
    refine go_icmp_lt (t := 20) (pc' := 9) dX10_existing_6 rfl rfl (fun c3 => ?_) (fun c3 => ?_)
    · rw [if_pos (show x1 < 3 from c3)] at h
      refine go_aload_n (pc' := 21) dX10_existing_20 rfl rfl (Nat.le_of_ble_eq_true rfl) ?_
      refine go_getR (k' := 7) (L0 := 0) (P' := 1) (pc' := 24) dX10_existing_21 rfl rf_10_12 rfl rfl (by omega) ?_
      refine go_iload_n (pc' := 25) dX10_existing_24 rfl rfl ?_
      obtain ⟨v1, k2, h⟩ := bd h
      have k2 := l_S_dimension (d + 0) n e σ x1 _ k2
      refine go_call (kc := 14) (Mc := mt14) (v := some (pvR 0 0 v1)) (w' := (true, n, e, σ)) (pc' := 28) (st' := [pvR 0 0 v1]) [pvR 7 0 1, pvI x1] [] (Or.inl rfl) dX10_existing_25 rfl rm_10_324 mtE14 rfl rfl rfl (Nat.le_of_ble_eq_true rfl) (Or.inr ⟨_, _, 1, rfl, Or.inl rfl⟩) k2 rfl ?_
      cases h
      exact go_aret dX10_existing_28 (Nat.le_of_ble_eq_true rfl) (Nat.ne_of_beq_eq_false rfl) rfl rfl
    · rw [if_neg (show ¬ (x1 < 3) from c3)] at h
      cases h
      exact go_throw (x := 1) (ic := 112) (ln := 3) (tx := "no such dimension") dX10_existing_9 rt_10_108 rfl rfl (Nat.le_of_ble_eq_true rfl) dX10_existing_12 (Or.inr ⟨dX10_existing_13, rfl⟩) dX10_existing_16 dX10_existing_19 (Or.inl ⟨rfl, rfl⟩) (by decide +kernel) rfl

set_option maxRecDepth 10000 in
theorem l_D_has (d : Nat) (n e : Nat) (σ : Hp) (p : Nat) (x1 : Int) (r : Int) (h : f_D_has σ p x1 = some r) : Ev (d + 1) 16 [pvR 0 0 p, pvI x1] (true, n, e, σ) (0, some (pvI r), true, n, e, σ) := by
  unfold f_D_has at h
  refine Ev.of mtE16 rfl rfl rfl rfl ?_
  show Go none (Ev (d + 0)) mt16 0 [some (pvR 0 0 p), some (pvI x1)] [] (true, n, e, σ) (0, some (pvI r), true, n, e, σ)
  refine go_iload_n (pc' := 1) dX0_has_0 rfl rfl ?_
  obtain ⟨j1, k2, h⟩ := bd h
  have k2J : Go none (Ev (d + 0)) mt16 23 [some (pvR 0 0 p), some (pvI x1)] [pvI j1] (true, n, e, σ) (0, some (pvI r), true, n, e, σ) := by
    obtain ⟨g5, h⟩ := gd h
    cases h
    exact go_zret dX0_has_23 rfl g5 rfl
  clear h
  have h := k2
  refine go_if_lt (t := 22) (pc' := 4) dX0_has_1 rfl rfl (fun c6 => ?_) (fun c6 => ?_)
  · rw [if_pos (show x1 < 0 from c6)] at h
    refine go_iconst (pc' := 23) dX0_has_22 rfl (r32_c rfl) ?_
    cases h
    exact k2J
  · rw [if_neg (show ¬ (x1 < 0) from c6)] at h
    refine go_iload_n (pc' := 5) dX0_has_4 rfl rfl ?_
    refine go_aload_n (pc' := 6) dX0_has_5 rfl rfl (Nat.le_of_ble_eq_true rfl) ?_
    refine go_getI (pc' := 9) dX0_has_6 rfl rf_0_9 rfl ?_
    refine go_icmp_ge (t := 22) (pc' := 12) dX0_has_9 rfl rfl (fun c4 => ?_) (fun c4 => ?_)
    · rw [if_pos (show (σ p 0) ≤ x1 from c4)] at h
      refine go_iconst (pc' := 23) dX0_has_22 rfl (r32_c rfl) ?_
      cases h
      exact k2J
    · rw [if_neg (show ¬ ((σ p 0) ≤ x1) from c4)] at h
      refine go_iload_n (pc' := 13) dX0_has_12 rfl rfl ?_
      refine go_bipush (pc' := 15) dX0_has_13 rfl (r32_c rfl) (by decide) ?_
      refine go_icmp_ge (t := 22) (pc' := 18) dX0_has_15 rfl rfl (fun c3 => ?_) (fun c3 => ?_)
      · rw [if_pos (show 12 ≤ x1 from c3)] at h
        refine go_iconst (pc' := 23) dX0_has_22 rfl (r32_c rfl) ?_
        cases h
        exact k2J
      · rw [if_neg (show ¬ (12 ≤ x1) from c3)] at h
        refine go_iconst (pc' := 19) dX0_has_18 rfl (r32_c rfl) ?_
        refine go_goto (t := 23) dX0_has_19 rfl ?_
        cases h
        exact k2J

set_option maxRecDepth 10000 in
theorem l_C_needMember (d : Nat) (n e : Nat) (σ : Hp) (p1 : Nat) (x2 : Int) (r : Nat) (h : f_C_needMember σ p1 x2 = some r) : Ev (d + 2) 15 [pvR 0 0 p1, pvI x2] (true, n, e, σ) (r, none, true, n, e + if r = 0 then 0 else 1, σ) := by
  unfold f_C_needMember at h
  refine Ev.of mtE15 rfl rfl rfl rfl ?_
  show Go none (Ev (d + 1)) mt15 0 [some (pvR 0 0 p1), some (pvI x2)] [] (true, n, e, σ) (r, none, true, n, e + if r = 0 then 0 else 1, σ)
  refine go_aload_n (pc' := 1) dX10_needMember_0 rfl rfl (Nat.le_of_ble_eq_true rfl) ?_
  refine go_iload_n (pc' := 2) dX10_needMember_1 rfl rfl ?_
  obtain ⟨v1, k2, h⟩ := bd h
  have k2 := l_D_has (d + 0) n e σ p1 x2 _ k2
  refine go_call (kc := 16) (Mc := mt16) (v := some (pvI v1)) (w' := (true, n, e, σ)) (pc' := 5) (st' := [pvI v1]) [pvR 0 0 p1, pvI x2] [] (Or.inl rfl) dX10_needMember_2 rfl rm_10_327 mtE16 rfl rfl rfl (Nat.le_of_ble_eq_true rfl) (Or.inr ⟨_, _, p1, rfl, Or.inl rfl⟩) k2 rfl ?_
  refine go_if_ne (t := 18) (pc' := 8) dX10_needMember_5 rfl rfl (fun c3 => ?_) (fun c3 => ?_)
  · rw [if_pos (show v1 ≠ 0 from c3)] at h
    cases h
    exact go_vret dX10_needMember_18 rfl rfl
  · rw [if_neg (show ¬ (v1 ≠ 0) from c3)] at h
    cases h
    exact go_throw (x := 1) (ic := 112) (ln := 2) (tx := "no such member") dX10_needMember_8 rt_10_108 rfl rfl (Nat.le_of_ble_eq_true rfl) dX10_needMember_11 (Or.inl ⟨dX10_needMember_12, rfl⟩) dX10_needMember_14 dX10_needMember_17 (Or.inl ⟨rfl, rfl⟩) (by decide +kernel) rfl

set_option maxRecDepth 10000 in
theorem l_C_needRange (d : Nat) (n e : Nat) (σ : Hp) (x1 : Int) (x2 : Int) (x3 : Int) (r : Nat) (h : f_C_needRange σ x1 x2 x3 = some r) : Ev (d + 1) 17 [pvI x1, pvI x2, pvI x3] (true, n, e, σ) (r, none, true, n, e + if r = 0 then 0 else 1, σ) := by
  unfold f_C_needRange at h
  refine Ev.of mtE17 rfl rfl rfl rfl ?_
  show Go none (Ev (d + 0)) mt17 0 [some (pvI x1), some (pvI x2), some (pvI x3)] [] (true, n, e, σ) (r, none, true, n, e + if r = 0 then 0 else 1, σ)
  refine go_iload_n (pc' := 1) dX10_needRange_0 rfl rfl ?_
  refine go_iload_n (pc' := 2) dX10_needRange_1 rfl rfl ?_
  refine go_icmp_lt (t := 10) (pc' := 5) dX10_needRange_2 rfl rfl (fun c2 => ?_) (fun c2 => ?_)
  · rw [if_pos (show x1 < x2 from c2)] at h
    cases h
    exact go_throw (x := 2) (ic := 274) (ln := 3) (tx := "out of range") dX10_needRange_10 rt_10_270 rfl rfl (Nat.le_of_ble_eq_true rfl) dX10_needRange_13 (Or.inr ⟨dX10_needRange_14, rfl⟩) dX10_needRange_17 dX10_needRange_20 (Or.inr (Or.inl ⟨rfl, rfl⟩)) (by decide +kernel) rfl
  · rw [if_neg (show ¬ (x1 < x2) from c2)] at h
    refine go_iload_n (pc' := 6) dX10_needRange_5 rfl rfl ?_
    refine go_iload_n (pc' := 7) dX10_needRange_6 rfl rfl ?_
    refine go_icmp_le (t := 21) (pc' := 10) dX10_needRange_7 rfl rfl (fun c1 => ?_) (fun c1 => ?_)
    · rw [if_pos (show x1 ≤ x3 from c1)] at h
      cases h
      exact go_vret dX10_needRange_21 rfl rfl
    · rw [if_neg (show ¬ (x1 ≤ x3) from c1)] at h
      cases h
      exact go_throw (x := 2) (ic := 274) (ln := 3) (tx := "out of range") dX10_needRange_10 rt_10_270 rfl rfl (Nat.le_of_ble_eq_true rfl) dX10_needRange_13 (Or.inr ⟨dX10_needRange_14, rfl⟩) dX10_needRange_17 dX10_needRange_20 (Or.inr (Or.inl ⟨rfl, rfl⟩)) (by decide +kernel) rfl

set_option maxRecDepth 10000 in
theorem l_D_isPlain (d : Nat) (n e : Nat) (σ : Hp) (p : Nat) (x1 : Int) (r : Int) (h : f_D_isPlain σ p x1 = some r) : Ev (d + 2) 18 [pvR 0 0 p, pvI x1] (true, n, e, σ) (0, some (pvI r), true, n, e, σ) := by
  unfold f_D_isPlain at h
  refine Ev.of mtE18 rfl rfl rfl rfl ?_
  show Go none (Ev (d + 1)) mt18 0 [some (pvR 0 0 p), some (pvI x1)] [] (true, n, e, σ) (0, some (pvI r), true, n, e, σ)
  refine go_aload_n (pc' := 1) dX0_isPlain_0 rfl rfl (Nat.le_of_ble_eq_true rfl) ?_
  refine go_iload_n (pc' := 2) dX0_isPlain_1 rfl rfl ?_
  obtain ⟨v1, k2, h⟩ := bd h
  have k2 := l_D_has (d + 0) n e σ p x1 _ k2
  refine go_call (kc := 16) (Mc := mt16) (v := some (pvI v1)) (w' := (true, n, e, σ)) (pc' := 5) (st' := [pvI v1]) [pvR 0 0 p, pvI x1] [] (Or.inl rfl) dX0_isPlain_2 rfl rm_0_65 mtE16 rfl rfl rfl (Nat.le_of_ble_eq_true rfl) (Or.inr ⟨_, _, p, rfl, Or.inl rfl⟩) k2 rfl ?_
  obtain ⟨j3, k4, h⟩ := bd h
  have k4J : Go none (Ev (d + 1)) mt18 22 [some (pvR 0 0 p), some (pvI x1)] [pvI j3] (true, n, e, σ) (0, some (pvI r), true, n, e, σ) := by
    obtain ⟨g7, h⟩ := gd h
    cases h
    exact go_zret dX0_isPlain_22 rfl g7 rfl
  clear h
  have h := k4
  refine go_if_eq (t := 21) (pc' := 8) dX0_isPlain_5 rfl rfl (fun c8 => ?_) (fun c8 => ?_)
  · rw [if_pos (show v1 = 0 from c8)] at h
    refine go_iconst (pc' := 22) dX0_isPlain_21 rfl (r32_c rfl) ?_
    cases h
    exact k4J
  · rw [if_neg (show ¬ (v1 = 0) from c8)] at h
    refine go_aload_n (pc' := 9) dX0_isPlain_8 rfl rfl (Nat.le_of_ble_eq_true rfl) ?_
    refine go_getR (k' := 12) (L0 := 12) (P' := (p + 5)) (pc' := 12) dX0_isPlain_9 rfl rf_0_22 rfl rfl (by omega) ?_
    refine go_iload_n (pc' := 13) dX0_isPlain_12 rfl rfl ?_
    obtain ⟨g5, h⟩ := gd h
    refine go_iald (pc' := 14) dX0_isPlain_13 rfl g5 ?_
    refine go_if_ne (t := 21) (pc' := 17) dX0_isPlain_14 rfl rfl (fun c6 => ?_) (fun c6 => ?_)
    · rw [if_pos (show (σ (p + 5) x1) ≠ 0 from c6)] at h
      refine go_iconst (pc' := 22) dX0_isPlain_21 rfl (r32_c rfl) ?_
      cases h
      exact k4J
    · rw [if_neg (show ¬ ((σ (p + 5) x1) ≠ 0) from c6)] at h
      refine go_iconst (pc' := 18) dX0_isPlain_17 rfl (r32_c rfl) ?_
      refine go_goto (t := 22) dX0_isPlain_18 rfl ?_
      cases h
      exact k4J

set_option maxRecDepth 10000 in
theorem l_C_need (d : Nat) (n e : Nat) (σ : Hp) (x1 : Int) (r : Nat) (h : f_C_need σ x1 = some r) : Ev (d + 1) 19 [pvI x1] (true, n, e, σ) (r, none, true, n, e + if r = 0 then 0 else 1, σ) := by
  unfold f_C_need at h
  refine Ev.of mtE19 rfl rfl rfl rfl ?_
  show Go none (Ev (d + 0)) mt19 0 [some (pvI x1)] [] (true, n, e, σ) (r, none, true, n, e + if r = 0 then 0 else 1, σ)
  refine go_iload_n (pc' := 1) dX10_need_0 rfl rfl ?_
  refine go_if_ne (t := 15) (pc' := 4) dX10_need_1 rfl rfl (fun c1 => ?_) (fun c1 => ?_)
  · rw [if_pos (show x1 ≠ 0 from c1)] at h
    cases h
    exact go_vret dX10_need_15 rfl rfl
  · rw [if_neg (show ¬ (x1 ≠ 0) from c1)] at h
    cases h
    exact go_throw (x := 3) (ic := 339) (ln := 3) (tx := "not as things stand") dX10_need_4 rt_10_335 rfl rfl (Nat.le_of_ble_eq_true rfl) dX10_need_7 (Or.inr ⟨dX10_need_8, rfl⟩) dX10_need_11 dX10_need_14 (Or.inr (Or.inr ⟨rfl, rfl⟩)) (by decide +kernel) rfl

set_option maxRecDepth 10000 in
theorem l_D_addKind (d : Nat) (n e : Nat) (σ : Hp) (p : Nat) (x1 : Int) (r : Int × Hp) (h : f_D_addKind σ p x1 = some r) : Ev (d + 1) 21 [pvR 0 0 p, pvI x1] (true, n, e, σ) (0, some (pvI r.1), true, n, e, r.2) := by
  unfold f_D_addKind at h
  refine Ev.of mtE21 rfl rfl rfl rfl ?_
  show Go none (Ev (d + 0)) mt21 0 [some (pvR 0 0 p), some (pvI x1)] [] (true, n, e, σ) (0, some (pvI r.1), true, n, e, r.2)
  refine go_aload_n (pc' := 1) dX0_addKind_0 rfl rfl (Nat.le_of_ble_eq_true rfl) ?_
  refine go_getI (pc' := 4) dX0_addKind_1 rfl rf_0_9 rfl ?_
  refine go_bipush (pc' := 6) dX0_addKind_4 rfl (r32_c rfl) (by decide) ?_
  refine go_icmp_lt (t := 11) (pc' := 9) dX0_addKind_6 rfl rfl (fun c4 => ?_) (fun c4 => ?_)
  · rw [if_pos (show (σ p 0) < 12 from c4)] at h
    refine go_aload_n (pc' := 12) dX0_addKind_11 rfl rfl (Nat.le_of_ble_eq_true rfl) ?_
    refine go_getR (k' := 12) (L0 := 12) (P' := (p + 5)) (pc' := 15) dX0_addKind_12 rfl rf_0_22 rfl rfl (by omega) ?_
    refine go_aload_n (pc' := 16) dX0_addKind_15 rfl rfl (Nat.le_of_ble_eq_true rfl) ?_
    refine go_getI (pc' := 19) dX0_addKind_16 rfl rf_0_9 rfl ?_
    refine go_iload_n (pc' := 20) dX0_addKind_19 rfl rfl ?_
    obtain ⟨g1, h⟩ := gd h
    refine go_iast (pc' := 21) dX0_addKind_20 rfl g1 ?_
    refine go_aload_n (pc' := 22) dX0_addKind_21 rfl rfl (Nat.le_of_ble_eq_true rfl) ?_
    refine go_dup (pc' := 23) dX0_addKind_22 rfl (Nat.ne_of_beq_eq_false rfl) ?_
    refine go_getI (pc' := 26) dX0_addKind_23 rfl rf_0_9 rfl ?_
    refine go_iconst (pc' := 27) dX0_addKind_26 rfl (r32_c rfl) ?_
    obtain ⟨g2, h⟩ := gd h
    refine go_iadd (pc' := 28) dX0_addKind_27 rfl g2 ?_
    refine go_putI (pc' := 31) dX0_addKind_28 rfl rf_0_9 rfl ?_
    refine go_aload_n (pc' := 32) dX0_addKind_31 rfl rfl (Nat.le_of_ble_eq_true rfl) ?_
    refine go_getI (pc' := 35) dX0_addKind_32 rfl rf_0_9 rfl ?_
    refine go_iconst (pc' := 36) dX0_addKind_35 rfl (r32_c rfl) ?_
    obtain ⟨g3, h⟩ := gd h
    refine go_isub (pc' := 37) dX0_addKind_36 rfl g3 ?_
    cases h
    exact go_iret dX0_addKind_37 rfl rfl
  · rw [if_neg (show ¬ ((σ p 0) < 12) from c4)] at h
    refine go_iconst (pc' := 10) dX0_addKind_9 rfl (r32_c rfl) ?_
    cases h
    exact go_iret dX0_addKind_10 rfl rfl

set_option maxRecDepth 10000 in
theorem l_D_addPlain (d : Nat) (n e : Nat) (σ : Hp) (p : Nat) (x1 : Int) (x2 : Int) (r : Int × Hp) (h : f_D_addPlain σ p x1 x2 = some r) : Ev (d + 2) 20 [pvR 0 0 p, pvI x1, pvI x2] (true, n, e, σ) (0, some (pvI r.1), true, n, e, r.2) := by
  unfold f_D_addPlain at h
  refine Ev.of mtE20 rfl rfl rfl rfl ?_
  show Go none (Ev (d + 1)) mt20 0 [some (pvR 0 0 p), some (pvI x1), some (pvI x2), none] [] (true, n, e, σ) (0, some (pvI r.1), true, n, e, r.2)
  refine go_aload_n (pc' := 1) dX0_addPlain_0 rfl rfl (Nat.le_of_ble_eq_true rfl) ?_
  refine go_iconst (pc' := 2) dX0_addPlain_1 rfl (r32_c rfl) ?_
  obtain ⟨v1, k2, h⟩ := bd h
  have k2 := l_D_addKind (d + 0) n e σ p 0 _ k2
  refine go_call (kc := 21) (Mc := mt21) (v := some (pvI v1.1)) (w' := (true, n, e, v1.2)) (pc' := 5) (st' := [pvI v1.1]) [pvR 0 0 p, pvI 0] [] (Or.inl rfl) dX0_addPlain_2 rfl rm_0_72 mtE21 rfl rfl rfl (Nat.le_of_ble_eq_true rfl) (Or.inr ⟨_, _, p, rfl, Or.inl rfl⟩) k2 rfl ?_
  refine go_istore_n (L' := [some (pvR 0 0 p), some (pvI x1), some (pvI x2), some (pvI v1.1)]) (pc' := 6) dX0_addPlain_5 rfl (Nat.le_of_ble_eq_true rfl) rfl ?_
  refine go_aload_n (pc' := 7) dX0_addPlain_6 rfl rfl (Nat.le_of_ble_eq_true rfl) ?_
  refine go_iload_n (pc' := 8) dX0_addPlain_7 rfl rfl ?_
  obtain ⟨v3, k4, h⟩ := bd h
  have k4 := l_D_has (d + 0) n e v1.2 p v1.1 _ k4
  refine go_call (kc := 16) (Mc := mt16) (v := some (pvI v3)) (w' := (true, n, e, v1.2)) (pc' := 11) (st' := [pvI v3]) [pvR 0 0 p, pvI v1.1] [] (Or.inl rfl) dX0_addPlain_8 rfl rm_0_65 mtE16 rfl rfl rfl (Nat.le_of_ble_eq_true rfl) (Or.inr ⟨_, _, p, rfl, Or.inl rfl⟩) k4 rfl ?_
  obtain ⟨j5, k6, h⟩ := bd h
  have k6J : Go none (Ev (d + 1)) mt20 28 [some (pvR 0 0 p), some (pvI x1), some (pvI x2), some (pvI v1.1)] [] (true, n, e, j5) (0, some (pvI r.1), true, n, e, r.2) := by
    refine go_iload_n (pc' := 29) dX0_addPlain_28 rfl rfl ?_
    cases h
    exact go_iret dX0_addPlain_29 rfl rfl
  clear h
  have h := k6
  refine go_if_eq (t := 28) (pc' := 14) dX0_addPlain_11 rfl rfl (fun c9 => ?_) (fun c9 => ?_)
  · rw [if_pos (show v3 = 0 from c9)] at h
    cases h
    exact k6J
  · rw [if_neg (show ¬ (v3 = 0) from c9)] at h
    refine go_aload_n (pc' := 15) dX0_addPlain_14 rfl rfl (Nat.le_of_ble_eq_true rfl) ?_
    refine go_getR (k' := 12) (L0 := 12) (P' := (p + 6)) (pc' := 18) dX0_addPlain_15 rfl rf_0_26 rfl rfl (by omega) ?_
    refine go_iload_n (pc' := 19) dX0_addPlain_18 rfl rfl ?_
    refine go_iload_n (pc' := 20) dX0_addPlain_19 rfl rfl ?_
    obtain ⟨g7, h⟩ := gd h
    refine go_iast (pc' := 21) dX0_addPlain_20 rfl g7 ?_
    refine go_aload_n (pc' := 22) dX0_addPlain_21 rfl rfl (Nat.le_of_ble_eq_true rfl) ?_
    refine go_getR (k' := 12) (L0 := 12) (P' := (p + 7)) (pc' := 25) dX0_addPlain_22 rfl rf_0_29 rfl rfl (by omega) ?_
    refine go_iload_n (pc' := 26) dX0_addPlain_25 rfl rfl ?_
    refine go_iload_n (pc' := 27) dX0_addPlain_26 rfl rfl ?_
    obtain ⟨g8, h⟩ := gd h
    refine go_iast (pc' := 28) dX0_addPlain_27 rfl g8 ?_
    cases h
    exact k6J

set_option maxRecDepth 10000 in
theorem l_TO_placeOf (d : Nat) (n e : Nat) (σ : Hp) (x1 : Int) (r : Int) (h : f_TO_placeOf σ x1 = some r) : Ev (d + 1) 23 [pvR 9 0 92, pvI x1] (true, n, e, σ) (0, some (pvI r), true, n, e, σ) := by
  unfold f_TO_placeOf at h
  refine Ev.of mtE23 rfl rfl rfl rfl ?_
  show Go none (Ev (d + 0)) mt23 0 [some (pvR 9 0 92), some (pvI x1)] [] (true, n, e, σ) (0, some (pvI r), true, n, e, σ)
  refine go_iload_n (pc' := 1) dX9_placeOf_0 rfl rfl ?_
  obtain ⟨j1, k2, h⟩ := bd h
  have k2J : Go none (Ev (d + 0)) mt23 20 [some (pvR 9 0 92), some (pvI x1)] [pvI j1] (true, n, e, σ) (0, some (pvI r), true, n, e, σ) := by
    cases h
    exact go_iret dX9_placeOf_20 rfl rfl
  clear h
  have h := k2
  refine go_if_lt (t := 19) (pc' := 4) dX9_placeOf_1 rfl rfl (fun c5 => ?_) (fun c5 => ?_)
  · rw [if_pos (show x1 < 0 from c5)] at h
    refine go_iconst (pc' := 20) dX9_placeOf_19 rfl (r32_c rfl) ?_
    cases h
    exact k2J
  · rw [if_neg (show ¬ (x1 < 0) from c5)] at h
    refine go_iload_n (pc' := 5) dX9_placeOf_4 rfl rfl ?_
    refine go_bipush (pc' := 7) dX9_placeOf_5 rfl (r32_c rfl) (by decide) ?_
    refine go_icmp_ge (t := 19) (pc' := 10) dX9_placeOf_7 rfl rfl (fun c4 => ?_) (fun c4 => ?_)
    · rw [if_pos (show 12 ≤ x1 from c4)] at h
      refine go_iconst (pc' := 20) dX9_placeOf_19 rfl (r32_c rfl) ?_
      cases h
      exact k2J
    · rw [if_neg (show ¬ (12 ≤ x1) from c4)] at h
      refine go_aload_n (pc' := 11) dX9_placeOf_10 rfl rfl (Nat.le_of_ble_eq_true rfl) ?_
      refine go_getR (k' := 12) (L0 := 12) (P' := 94) (pc' := 14) dX9_placeOf_11 rfl rf_9_19 rfl rfl (by omega) ?_
      refine go_iload_n (pc' := 15) dX9_placeOf_14 rfl rfl ?_
      obtain ⟨g3, h⟩ := gd h
      refine go_iald (pc' := 16) dX9_placeOf_15 rfl g3 ?_
      refine go_goto (t := 20) dX9_placeOf_16 rfl ?_
      cases h
      exact k2J

set_option maxRecDepth 10000 in
theorem l_D_depthOf (d : Nat) (n e : Nat) (σ : Hp) (p : Nat) (x1 : Int) (r : Int) (h : f_D_depthOf σ p x1 = some r) : Ev (d + 2) 24 [pvR 0 0 p, pvI x1] (true, n, e, σ) (0, some (pvI r), true, n, e, σ) := by
  unfold f_D_depthOf at h
  refine Ev.of mtE24 rfl rfl rfl rfl ?_
  show Go none (Ev (d + 1)) mt24 0 [some (pvR 0 0 p), some (pvI x1)] [] (true, n, e, σ) (0, some (pvI r), true, n, e, σ)
  refine go_aload_n (pc' := 1) dX0_depthOf_0 rfl rfl (Nat.le_of_ble_eq_true rfl) ?_
  refine go_iload_n (pc' := 2) dX0_depthOf_1 rfl rfl ?_
  obtain ⟨v1, k2, h⟩ := bd h
  have k2 := l_D_has (d + 0) n e σ p x1 _ k2
  refine go_call (kc := 16) (Mc := mt16) (v := some (pvI v1)) (w' := (true, n, e, σ)) (pc' := 5) (st' := [pvI v1]) [pvR 0 0 p, pvI x1] [] (Or.inl rfl) dX0_depthOf_2 rfl rm_0_65 mtE16 rfl rfl rfl (Nat.le_of_ble_eq_true rfl) (Or.inr ⟨_, _, p, rfl, Or.inl rfl⟩) k2 rfl ?_
  obtain ⟨j3, k4, h⟩ := bd h
  have k4J : Go none (Ev (d + 1)) mt24 27 [some (pvR 0 0 p), some (pvI x1)] [pvI j3] (true, n, e, σ) (0, some (pvI r), true, n, e, σ) := by
    cases h
    exact go_iret dX0_depthOf_27 rfl rfl
  clear h
  have h := k4
  refine go_if_eq (t := 26) (pc' := 8) dX0_depthOf_5 rfl rfl (fun c8 => ?_) (fun c8 => ?_)
  · rw [if_pos (show v1 = 0 from c8)] at h
    refine go_iconst (pc' := 27) dX0_depthOf_26 rfl (r32_c rfl) ?_
    cases h
    exact k4J
  · rw [if_neg (show ¬ (v1 = 0) from c8)] at h
    refine go_aload_n (pc' := 9) dX0_depthOf_8 rfl rfl (Nat.le_of_ble_eq_true rfl) ?_
    refine go_getR (k' := 12) (L0 := 12) (P' := (p + 5)) (pc' := 12) dX0_depthOf_9 rfl rf_0_22 rfl rfl (by omega) ?_
    refine go_iload_n (pc' := 13) dX0_depthOf_12 rfl rfl ?_
    obtain ⟨g5, h⟩ := gd h
    refine go_iald (pc' := 14) dX0_depthOf_13 rfl g5 ?_
    refine go_if_ne (t := 26) (pc' := 17) dX0_depthOf_14 rfl rfl (fun c7 => ?_) (fun c7 => ?_)
    · rw [if_pos (show (σ (p + 5) x1) ≠ 0 from c7)] at h
      refine go_iconst (pc' := 27) dX0_depthOf_26 rfl (r32_c rfl) ?_
      cases h
      exact k4J
    · rw [if_neg (show ¬ ((σ (p + 5) x1) ≠ 0) from c7)] at h
      refine go_aload_n (pc' := 18) dX0_depthOf_17 rfl rfl (Nat.le_of_ble_eq_true rfl) ?_
      refine go_getR (k' := 12) (L0 := 12) (P' := (p + 14)) (pc' := 21) dX0_depthOf_18 rfl rf_0_54 rfl rfl (by omega) ?_
      refine go_iload_n (pc' := 22) dX0_depthOf_21 rfl rfl ?_
      obtain ⟨g6, h⟩ := gd h
      refine go_iald (pc' := 23) dX0_depthOf_22 rfl g6 ?_
      refine go_goto (t := 27) dX0_depthOf_23 rfl ?_
      cases h
      exact k4J

set_option maxRecDepth 10000 in
theorem l_TO_insert_29 (d : Nat) (n : Nat) (e : Nat) (σ : Hp) (x1 : Int) (x2 : Int) (p3 : Nat) {out : Out} : ∀ (F : Nat) (y4 : Int) (j13 : Int), f_TO_insert_29 σ x2 p3 F y4 = some j13 → Go none (Ev (d + 2)) mt22 63 [some (pvR 9 0 92), some (pvI x1), some (pvI x2), some (pvR 0 0 p3), some (pvI j13), none] [] (true, n, e, σ) out → Go none (Ev (d + 2)) mt22 29 [some (pvR 9 0 92), some (pvI x1), some (pvI x2), some (pvR 0 0 p3), some (pvI y4), none] [] (true, n, e, σ) out := by
  intro F
  induction F with
  | zero =>
    intro _ _ h
    intro _
    rw [f_TO_insert_29] at h
    cases h
  | succ F ih =>
    intro y4 j13 h hx
    rw [f_TO_insert_29] at h
    refine go_iload (pc' := 31) dX9_insert_29 rfl rfl ?_
    refine go_aload_n (pc' := 32) dX9_insert_31 rfl rfl (Nat.le_of_ble_eq_true rfl) ?_
    refine go_getI (pc' := 35) dX9_insert_32 rfl rf_9_9 rfl ?_
    refine go_icmp_ge (t := 63) (pc' := 38) dX9_insert_35 rfl rfl (fun c12 => ?_) (fun c12 => ?_)
    · rw [if_pos (show (σ 92 0) ≤ y4 from c12)] at h
      cases h
      exact hx
    · rw [if_neg (show ¬ ((σ 92 0) ≤ y4) from c12)] at h
      refine go_aload_n (pc' := 39) dX9_insert_38 rfl rfl (Nat.le_of_ble_eq_true rfl) ?_
      refine go_aload_n (pc' := 40) dX9_insert_39 rfl rfl (Nat.le_of_ble_eq_true rfl) ?_
      refine go_getR (k' := 12) (L0 := 12) (P' := 93) (pc' := 43) dX9_insert_40 rfl rf_9_15 rfl rfl (by omega) ?_
      refine go_iload (pc' := 45) dX9_insert_43 rfl rfl ?_
      obtain ⟨g5, h⟩ := gd h
      refine go_iald (pc' := 46) dX9_insert_45 rfl g5 ?_
      obtain ⟨v6, k7, h⟩ := bd h
      have k7 := l_D_depthOf (d + 0) n e σ p3 (σ 93 y4) _ k7
      refine go_call (kc := 24) (Mc := mt24) (v := some (pvI v6)) (w' := (true, n, e, σ)) (pc' := 49) (st' := [pvI v6]) [pvR 0 0 p3, pvI (σ 93 y4)] [] (Or.inl rfl) dX9_insert_46 rfl rm_9_32 mtE24 rfl rfl rfl (Nat.le_of_ble_eq_true rfl) (Or.inr ⟨_, _, p3, rfl, Or.inl rfl⟩) k7 rfl ?_
      refine go_aload_n (pc' := 50) dX9_insert_49 rfl rfl (Nat.le_of_ble_eq_true rfl) ?_
      refine go_iload_n (pc' := 51) dX9_insert_50 rfl rfl ?_
      obtain ⟨v8, k9, h⟩ := bd h
      have k9 := l_D_depthOf (d + 0) n e σ p3 x2 _ k9
      refine go_call (kc := 24) (Mc := mt24) (v := some (pvI v8)) (w' := (true, n, e, σ)) (pc' := 54) (st' := [pvI v8, pvI v6]) [pvR 0 0 p3, pvI x2] [pvI v6] (Or.inl rfl) dX9_insert_51 rfl rm_9_32 mtE24 rfl rfl rfl (Nat.le_of_ble_eq_true rfl) (Or.inr ⟨_, _, p3, rfl, Or.inl rfl⟩) k9 rfl ?_
      refine go_icmp_le (t := 63) (pc' := 57) dX9_insert_54 rfl rfl (fun c11 => ?_) (fun c11 => ?_)
      · rw [if_pos (show v6 ≤ v8 from c11)] at h
        cases h
        exact hx
      · rw [if_neg (show ¬ (v6 ≤ v8) from c11)] at h
        obtain ⟨g10, h⟩ := gd h
        refine go_iinc (L' := [some (pvR 9 0 92), some (pvI x1), some (pvI x2), some (pvR 0 0 p3), some (pvI (y4 + 1)), none]) (pc' := 60) dX9_insert_57 rfl rfl g10 rfl ?_
        refine go_goto (t := 29) dX9_insert_60 rfl ?_
        exact ih (y4 + 1) _ h hx

set_option maxRecDepth 10000 in
theorem l_TO_insert_69 (d : Nat) (n : Nat) (e : Nat) (x1 : Int) (x2 : Int) (p3 : Nat) (j14 : Int) {out : Out} : ∀ (F : Nat) (y16 : Int) (σ17 : Hp) (j25 : Int × Hp), f_TO_insert_69 j14 F y16 σ17 = some j25 → Go none (Ev (d + 2)) mt22 112 [some (pvR 9 0 92), some (pvI x1), some (pvI x2), some (pvR 0 0 p3), some (pvI j14), some (pvI j25.1)] [] (true, n, e, j25.2) out → Go none (Ev (d + 2)) mt22 69 [some (pvR 9 0 92), some (pvI x1), some (pvI x2), some (pvR 0 0 p3), some (pvI j14), some (pvI y16)] [] (true, n, e, σ17) out := by
  intro F
  induction F with
  | zero =>
    intro _ _ _ h
    intro _
    rw [f_TO_insert_69] at h
    cases h
  | succ F ih =>
    intro y16 σ17 j25 h hx
    rw [f_TO_insert_69] at h
    refine go_iload (pc' := 71) dX9_insert_69 rfl rfl ?_
    refine go_iload (pc' := 73) dX9_insert_71 rfl rfl ?_
    refine go_icmp_le (t := 112) (pc' := 76) dX9_insert_73 rfl rfl (fun c24 => ?_) (fun c24 => ?_)
    · rw [if_pos (show y16 ≤ j14 from c24)] at h
      cases h
      exact hx
    · rw [if_neg (show ¬ (y16 ≤ j14) from c24)] at h
      refine go_aload_n (pc' := 77) dX9_insert_76 rfl rfl (Nat.le_of_ble_eq_true rfl) ?_
      refine go_getR (k' := 12) (L0 := 12) (P' := 93) (pc' := 80) dX9_insert_77 rfl rf_9_15 rfl rfl (by omega) ?_
      refine go_iload (pc' := 82) dX9_insert_80 rfl rfl ?_
      refine go_aload_n (pc' := 83) dX9_insert_82 rfl rfl (Nat.le_of_ble_eq_true rfl) ?_
      refine go_getR (k' := 12) (L0 := 12) (P' := 93) (pc' := 86) dX9_insert_83 rfl rf_9_15 rfl rfl (by omega) ?_
      refine go_iload (pc' := 88) dX9_insert_86 rfl rfl ?_
      refine go_iconst (pc' := 89) dX9_insert_88 rfl (r32_c rfl) ?_
      obtain ⟨g18, h⟩ := gd h
      refine go_isub (pc' := 90) dX9_insert_89 rfl g18 ?_
      obtain ⟨g19, h⟩ := gd h
      refine go_iald (pc' := 91) dX9_insert_90 rfl g19 ?_
      obtain ⟨g20, h⟩ := gd h
      refine go_iast (pc' := 92) dX9_insert_91 rfl g20 ?_
      refine go_aload_n (pc' := 93) dX9_insert_92 rfl rfl (Nat.le_of_ble_eq_true rfl) ?_
      refine go_getR (k' := 12) (L0 := 12) (P' := 94) (pc' := 96) dX9_insert_93 rfl rf_9_19 rfl rfl (by omega) ?_
      refine go_aload_n (pc' := 97) dX9_insert_96 rfl rfl (Nat.le_of_ble_eq_true rfl) ?_
      refine go_getR (k' := 12) (L0 := 12) (P' := 93) (pc' := 100) dX9_insert_97 rfl rf_9_15 rfl rfl (by omega) ?_
      refine go_iload (pc' := 102) dX9_insert_100 rfl rfl ?_
      obtain ⟨g21, h⟩ := gd h
      refine go_iald (pc' := 103) dX9_insert_102 rfl g21 ?_
      refine go_iload (pc' := 105) dX9_insert_103 rfl rfl ?_
      obtain ⟨g22, h⟩ := gd h
      refine go_iast (pc' := 106) dX9_insert_105 rfl g22 ?_
      obtain ⟨g23, h⟩ := gd h
      refine go_iinc (L' := [some (pvR 9 0 92), some (pvI x1), some (pvI x2), some (pvR 0 0 p3), some (pvI j14), some (pvI (y16 + (-1)))]) (pc' := 109) dX9_insert_106 rfl rfl g23 rfl ?_
      refine go_goto (t := 69) dX9_insert_109 rfl ?_
      exact ih (y16 + (-1)) (hset (hset σ17 93 y16 (σ17 93 (y16 - 1))) 94 ((hset σ17 93 y16 (σ17 93 (y16 - 1))) 93 y16) y16) _ h hx

set_option maxRecDepth 10000 in
theorem l_TO_insert (d : Nat) (n e : Nat) (σ : Hp) (x1 : Int) (x2 : Int) (p3 : Nat) (r : Hp) (h : f_TO_insert σ x1 x2 p3 = some r) : Ev (d + 3) 22 [pvR 9 0 92, pvI x1, pvI x2, pvR 0 0 p3] (true, n, e, σ) (0, none, true, n, e, r) := by
  unfold f_TO_insert at h
  refine Ev.of mtE22 rfl rfl rfl rfl ?_
  show Go none (Ev (d + 2)) mt22 0 [some (pvR 9 0 92), some (pvI x1), some (pvI x2), some (pvR 0 0 p3), none, none] [] (true, n, e, σ) (0, none, true, n, e, r)
  refine go_aload_n (pc' := 1) dX9_insert_0 rfl rfl (Nat.le_of_ble_eq_true rfl) ?_
  refine go_getI (pc' := 4) dX9_insert_1 rfl rf_9_9 rfl ?_
  refine go_bipush (pc' := 6) dX9_insert_4 rfl (r32_c rfl) (by decide) ?_
  refine go_icmp_ge (t := 19) (pc' := 9) dX9_insert_6 rfl rfl (fun c33 => ?_) (fun c33 => ?_)
  · rw [if_pos (show 12 ≤ (σ 92 0) from c33)] at h
    cases h
    exact go_vret dX9_insert_19 rfl rfl
  · rw [if_neg (show ¬ (12 ≤ (σ 92 0)) from c33)] at h
    refine go_iload_n (pc' := 10) dX9_insert_9 rfl rfl ?_
    refine go_if_lt (t := 19) (pc' := 13) dX9_insert_10 rfl rfl (fun c32 => ?_) (fun c32 => ?_)
    · rw [if_pos (show x1 < 0 from c32)] at h
      cases h
      exact go_vret dX9_insert_19 rfl rfl
    · rw [if_neg (show ¬ (x1 < 0) from c32)] at h
      refine go_iload_n (pc' := 14) dX9_insert_13 rfl rfl ?_
      refine go_bipush (pc' := 16) dX9_insert_14 rfl (r32_c rfl) (by decide) ?_
      refine go_icmp_lt (t := 20) (pc' := 19) dX9_insert_16 rfl rfl (fun c31 => ?_) (fun c31 => ?_)
      · rw [if_pos (show x1 < 12 from c31)] at h
        refine go_aload_n (pc' := 21) dX9_insert_20 rfl rfl (Nat.le_of_ble_eq_true rfl) ?_
        refine go_iload_n (pc' := 22) dX9_insert_21 rfl rfl ?_
        obtain ⟨v1, k2, h⟩ := bd h
        have k2 := l_TO_placeOf (d + 1) n e σ x2 _ k2
        refine go_call (kc := 23) (Mc := mt23) (v := some (pvI v1)) (w' := (true, n, e, σ)) (pc' := 25) (st' := [pvI v1]) [pvR 9 0 92, pvI x2] [] (Or.inl rfl) dX9_insert_22 rfl rm_9_28 mtE23 rfl rfl rfl (Nat.le_of_ble_eq_true rfl) (Or.inr ⟨_, _, 92, rfl, Or.inl rfl⟩) k2 rfl ?_
        refine go_iconst (pc' := 26) dX9_insert_25 rfl (r32_c rfl) ?_
        obtain ⟨g3, h⟩ := gd h
        refine go_iadd (pc' := 27) dX9_insert_26 rfl g3 ?_
        refine go_istore (L' := [some (pvR 9 0 92), some (pvI x1), some (pvI x2), some (pvR 0 0 p3), some (pvI (v1 + 1)), none]) (pc' := 29) dX9_insert_27 rfl (Nat.le_of_ble_eq_true rfl) rfl ?_
        obtain ⟨j14, k15, h⟩ := bd h
        refine l_TO_insert_29 d n e σ x1 x2 p3 zFuel (v1 + 1) _ k15 ?_
        refine go_aload_n (pc' := 64) dX9_insert_63 rfl rfl (Nat.le_of_ble_eq_true rfl) ?_
        refine go_getI (pc' := 67) dX9_insert_64 rfl rf_9_9 rfl ?_
        refine go_istore (L' := [some (pvR 9 0 92), some (pvI x1), some (pvI x2), some (pvR 0 0 p3), some (pvI j14), some (pvI (σ 92 0))]) (pc' := 69) dX9_insert_67 rfl (Nat.le_of_ble_eq_true rfl) rfl ?_
        obtain ⟨j26, k27, h⟩ := bd h
        refine l_TO_insert_69 d n e x1 x2 p3 j14 zFuel (σ 92 0) σ _ k27 ?_
        refine go_aload_n (pc' := 113) dX9_insert_112 rfl rfl (Nat.le_of_ble_eq_true rfl) ?_
        refine go_getR (k' := 12) (L0 := 12) (P' := 93) (pc' := 116) dX9_insert_113 rfl rf_9_15 rfl rfl (by omega) ?_
        refine go_iload (pc' := 118) dX9_insert_116 rfl rfl ?_
        refine go_iload_n (pc' := 119) dX9_insert_118 rfl rfl ?_
        obtain ⟨g28, h⟩ := gd h
        refine go_iast (pc' := 120) dX9_insert_119 rfl g28 ?_
        refine go_aload_n (pc' := 121) dX9_insert_120 rfl rfl (Nat.le_of_ble_eq_true rfl) ?_
        refine go_getR (k' := 12) (L0 := 12) (P' := 94) (pc' := 124) dX9_insert_121 rfl rf_9_19 rfl rfl (by omega) ?_
        refine go_iload_n (pc' := 125) dX9_insert_124 rfl rfl ?_
        refine go_iload (pc' := 127) dX9_insert_125 rfl rfl ?_
        obtain ⟨g29, h⟩ := gd h
        refine go_iast (pc' := 128) dX9_insert_127 rfl g29 ?_
        refine go_aload_n (pc' := 129) dX9_insert_128 rfl rfl (Nat.le_of_ble_eq_true rfl) ?_
        refine go_dup (pc' := 130) dX9_insert_129 rfl (Nat.ne_of_beq_eq_false rfl) ?_
        refine go_getI (pc' := 133) dX9_insert_130 rfl rf_9_9 rfl ?_
        refine go_iconst (pc' := 134) dX9_insert_133 rfl (r32_c rfl) ?_
        obtain ⟨g30, h⟩ := gd h
        refine go_iadd (pc' := 135) dX9_insert_134 rfl g30 ?_
        refine go_putI (pc' := 138) dX9_insert_135 rfl rf_9_9 rfl ?_
        cases h
        exact go_vret dX9_insert_138 rfl rfl
      · rw [if_neg (show ¬ (x1 < 12) from c31)] at h
        cases h
        exact go_vret dX9_insert_19 rfl rfl

set_option maxRecDepth 10000 in
theorem l_MV_parentAt_9 (d : Nat) (n : Nat) (e : Nat) (σ : Hp) (p : Nat) (x1 : Int) (x2 : Int) (x3 : Int) {out : Out} : ∀ (F : Nat) (y1 : Int) (y2 : Int) (y3 : Int) (j16 : Int × Int × Int), f_MV_parentAt_9 σ p x1 x3 F y1 y2 y3 = some j16 → Go none (Ev (d + 1)) mt27 75 [some (pvR 5 0 p), some (pvI x1), some (pvI x2), some (pvI x3), some (pvR 9 0 92), some (pvI j16.1), some (pvI j16.2.1), some (pvI j16.2.2), none] [] (true, n, e, σ) out → Go none (Ev (d + 1)) mt27 9 [some (pvR 5 0 p), some (pvI x1), some (pvI x2), some (pvI x3), some (pvR 9 0 92), some (pvI y1), some (pvI y2), some (pvI y3), none] [] (true, n, e, σ) out := by
  intro F
  induction F with
  | zero =>
    intro _ _ _ _ h
    intro _
    rw [f_MV_parentAt_9] at h
    cases h
  | succ F ih =>
    intro y1 y2 y3 j16 h hx
    rw [f_MV_parentAt_9] at h
    refine go_iload (pc' := 11) dX5_parentAt_9 rfl rfl ?_
    refine go_aload_n (pc' := 12) dX5_parentAt_11 rfl rfl (Nat.le_of_ble_eq_true rfl) ?_
    refine go_getI (pc' := 15) dX5_parentAt_12 rfl rf_5_21 rfl ?_
    refine go_icmp_ge (t := 75) (pc' := 18) dX5_parentAt_15 rfl rfl (fun c15 => ?_) (fun c15 => ?_)
    · rw [if_pos (show (σ p 0) ≤ y3 from c15)] at h
      cases h
      exact hx
    · rw [if_neg (show ¬ ((σ p 0) ≤ y3) from c15)] at h
      refine go_aload (pc' := 20) dX5_parentAt_18 rfl rfl (Nat.le_of_ble_eq_true rfl) ?_
      refine go_aload_n (pc' := 21) dX5_parentAt_20 rfl rfl (Nat.le_of_ble_eq_true rfl) ?_
      refine go_getR (k' := 12) (L0 := 10) (P' := (p + 3)) (pc' := 24) dX5_parentAt_21 rfl rf_5_18 rfl rfl (by omega) ?_
      refine go_iload (pc' := 26) dX5_parentAt_24 rfl rfl ?_
      obtain ⟨g4, h⟩ := gd h
      refine go_iald (pc' := 27) dX5_parentAt_26 rfl g4 ?_
      obtain ⟨v5, k6, h⟩ := bd h
      have k6 := l_TO_placeOf (d + 0) n e σ (σ (p + 3) y3) _ k6
      refine go_call (kc := 23) (Mc := mt23) (v := some (pvI v5)) (w' := (true, n, e, σ)) (pc' := 30) (st' := [pvI v5]) [pvR 9 0 92, pvI (σ (p + 3) y3)] [] (Or.inl rfl) dX5_parentAt_27 rfl rm_5_25 mtE23 rfl rfl rfl (Nat.le_of_ble_eq_true rfl) (Or.inr ⟨_, _, 92, rfl, Or.inl rfl⟩) k6 rfl ?_
      refine go_istore (L' := [some (pvR 5 0 p), some (pvI x1), some (pvI x2), some (pvI x3), some (pvR 9 0 92), some (pvI y1), some (pvI y2), some (pvI y3), some (pvI v5)]) (pc' := 32) dX5_parentAt_30 rfl (Nat.le_of_ble_eq_true rfl) rfl ?_
      refine go_aload_n (pc' := 33) dX5_parentAt_32 rfl rfl (Nat.le_of_ble_eq_true rfl) ?_
      refine go_getR (k' := 12) (L0 := 10) (P' := (p + 1)) (pc' := 36) dX5_parentAt_33 rfl rf_5_9 rfl rfl (by omega) ?_
      refine go_iload (pc' := 38) dX5_parentAt_36 rfl rfl ?_
      obtain ⟨g7, h⟩ := gd h
      refine go_iald (pc' := 39) dX5_parentAt_38 rfl g7 ?_
      refine go_iload_n (pc' := 40) dX5_parentAt_39 rfl rfl ?_
      obtain ⟨j8, k9, h⟩ := bd h
      have k9J : Go none (Ev (d + 1)) mt27 69 [some (pvR 5 0 p), some (pvI x1), some (pvI x2), some (pvI x3), some (pvR 9 0 92), some (pvI j8.1), some (pvI j8.2), some (pvI y3), some (pvI v5)] [] (true, n, e, σ) out := by
        obtain ⟨g13, h⟩ := gd h
        refine go_iinc (L' := [some (pvR 5 0 p), some (pvI x1), some (pvI x2), some (pvI x3), some (pvR 9 0 92), some (pvI j8.1), some (pvI j8.2), some (pvI (y3 + 1)), some (pvI v5)]) (pc' := 72) dX5_parentAt_69 rfl rfl g13 rfl ?_
        refine go_goto (t := 9) dX5_parentAt_72 rfl ?_
        exact go_sub (ih j8.1 j8.2 (y3 + 1) _ h hx) ⟨Or.inr rfl, Or.inr rfl, Or.inr rfl, Or.inr rfl, Or.inr rfl, Or.inr rfl, Or.inr rfl, Or.inr rfl, Or.inl rfl, trivial⟩
      clear h
      have h := k9
      refine go_icmp_ne (t := 69) (pc' := 43) dX5_parentAt_40 rfl rfl (fun c14 => ?_) (fun c14 => ?_)
      · rw [if_pos (show (σ (p + 1) y3) ≠ x1 from c14)] at h
        cases h
        exact k9J
      · rw [if_neg (show ¬ ((σ (p + 1) y3) ≠ x1) from c14)] at h
        refine go_iload (pc' := 45) dX5_parentAt_43 rfl rfl ?_
        refine go_iload_n (pc' := 46) dX5_parentAt_45 rfl rfl ?_
        refine go_icmp_gt (t := 69) (pc' := 49) dX5_parentAt_46 rfl rfl (fun c12 => ?_) (fun c12 => ?_)
        · rw [if_pos (show x3 < v5 from c12)] at h
          cases h
          exact k9J
        · rw [if_neg (show ¬ (x3 < v5) from c12)] at h
          refine go_iload (pc' := 51) dX5_parentAt_49 rfl rfl ?_
          refine go_iload (pc' := 53) dX5_parentAt_51 rfl rfl ?_
          refine go_icmp_lt (t := 69) (pc' := 56) dX5_parentAt_53 rfl rfl (fun c11 => ?_) (fun c11 => ?_)
          · rw [if_pos (show v5 < y2 from c11)] at h
            cases h
            exact k9J
          · rw [if_neg (show ¬ (v5 < y2) from c11)] at h
            refine go_iload (pc' := 58) dX5_parentAt_56 rfl rfl ?_
            refine go_istore (L' := [some (pvR 5 0 p), some (pvI x1), some (pvI x2), some (pvI x3), some (pvR 9 0 92), some (pvI y1), some (pvI v5), some (pvI y3), some (pvI v5)]) (pc' := 60) dX5_parentAt_58 rfl (Nat.le_of_ble_eq_true rfl) rfl ?_
            refine go_aload_n (pc' := 61) dX5_parentAt_60 rfl rfl (Nat.le_of_ble_eq_true rfl) ?_
            refine go_getR (k' := 12) (L0 := 10) (P' := (p + 2)) (pc' := 64) dX5_parentAt_61 rfl rf_5_15 rfl rfl (by omega) ?_
            refine go_iload (pc' := 66) dX5_parentAt_64 rfl rfl ?_
            obtain ⟨g10, h⟩ := gd h
            refine go_iald (pc' := 67) dX5_parentAt_66 rfl g10 ?_
            refine go_istore (L' := [some (pvR 5 0 p), some (pvI x1), some (pvI x2), some (pvI x3), some (pvR 9 0 92), some (pvI (σ (p + 2) y3)), some (pvI v5), some (pvI y3), some (pvI v5)]) (pc' := 69) dX5_parentAt_67 rfl (Nat.le_of_ble_eq_true rfl) rfl ?_
            cases h
            exact k9J

set_option maxRecDepth 10000 in
theorem l_MV_parentAt (d : Nat) (n e : Nat) (σ : Hp) (p : Nat) (x1 : Int) (x2 : Int) (x3 : Int) (r : Int) (h : f_MV_parentAt σ p x1 x2 x3 = some r) : Ev (d + 2) 27 [pvR 5 0 p, pvI x1, pvI x2, pvI x3, pvR 9 0 92] (true, n, e, σ) (0, some (pvI r), true, n, e, σ) := by
  unfold f_MV_parentAt at h
  refine Ev.of mtE27 rfl rfl rfl rfl ?_
  show Go none (Ev (d + 1)) mt27 0 [some (pvR 5 0 p), some (pvI x1), some (pvI x2), some (pvI x3), some (pvR 9 0 92), none, none, none, none] [] (true, n, e, σ) (0, some (pvI r), true, n, e, σ)
  refine go_iload_n (pc' := 1) dX5_parentAt_0 rfl rfl ?_
  refine go_istore (L' := [some (pvR 5 0 p), some (pvI x1), some (pvI x2), some (pvI x3), some (pvR 9 0 92), some (pvI x2), none, none, none]) (pc' := 3) dX5_parentAt_1 rfl (Nat.le_of_ble_eq_true rfl) rfl ?_
  refine go_iconst (pc' := 4) dX5_parentAt_3 rfl (r32_c rfl) ?_
  refine go_istore (L' := [some (pvR 5 0 p), some (pvI x1), some (pvI x2), some (pvI x3), some (pvR 9 0 92), some (pvI x2), some (pvI (-1)), none, none]) (pc' := 6) dX5_parentAt_4 rfl (Nat.le_of_ble_eq_true rfl) rfl ?_
  refine go_iconst (pc' := 7) dX5_parentAt_6 rfl (r32_c rfl) ?_
  refine go_istore (L' := [some (pvR 5 0 p), some (pvI x1), some (pvI x2), some (pvI x3), some (pvR 9 0 92), some (pvI x2), some (pvI (-1)), some (pvI 0), none]) (pc' := 9) dX5_parentAt_7 rfl (Nat.le_of_ble_eq_true rfl) rfl ?_
  obtain ⟨j17, k18, h⟩ := bd h
  refine l_MV_parentAt_9 d n e σ p x1 x2 x3 zFuel x2 (-1) 0 _ k18 ?_
  refine go_iload (pc' := 77) dX5_parentAt_75 rfl rfl ?_
  cases h
  exact go_iret dX5_parentAt_77 rfl rfl

set_option maxRecDepth 10000 in
theorem l_D_isSeen (d : Nat) (n e : Nat) (σ : Hp) (p : Nat) (x1 : Int) (r : Int) (h : f_D_isSeen σ p x1 = some r) : Ev (d + 1) 29 [pvR 0 0 p, pvI x1] (true, n, e, σ) (0, some (pvI r), true, n, e, σ) := by
  unfold f_D_isSeen at h
  refine Ev.of mtE29 rfl rfl rfl rfl ?_
  show Go none (Ev (d + 0)) mt29 0 [some (pvR 0 0 p), some (pvI x1)] [] (true, n, e, σ) (0, some (pvI r), true, n, e, σ)
  refine go_iload_n (pc' := 1) dX0_isSeen_0 rfl rfl ?_
  obtain ⟨j1, k2, h⟩ := bd h
  have k2J : Go none (Ev (d + 0)) mt29 26 [some (pvR 0 0 p), some (pvI x1)] [pvI j1] (true, n, e, σ) (0, some (pvI r), true, n, e, σ) := by
    obtain ⟨g6, h⟩ := gd h
    cases h
    exact go_zret dX0_isSeen_26 rfl g6 rfl
  clear h
  have h := k2
  refine go_if_lt (t := 25) (pc' := 4) dX0_isSeen_1 rfl rfl (fun c7 => ?_) (fun c7 => ?_)
  · rw [if_pos (show x1 < 0 from c7)] at h
    refine go_iconst (pc' := 26) dX0_isSeen_25 rfl (r32_c rfl) ?_
    cases h
    exact k2J
  · rw [if_neg (show ¬ (x1 < 0) from c7)] at h
    refine go_iload_n (pc' := 5) dX0_isSeen_4 rfl rfl ?_
    refine go_aload_n (pc' := 6) dX0_isSeen_5 rfl rfl (Nat.le_of_ble_eq_true rfl) ?_
    refine go_getI (pc' := 9) dX0_isSeen_6 rfl rf_0_9 rfl ?_
    refine go_icmp_ge (t := 25) (pc' := 12) dX0_isSeen_9 rfl rfl (fun c5 => ?_) (fun c5 => ?_)
    · rw [if_pos (show (σ p 0) ≤ x1 from c5)] at h
      refine go_iconst (pc' := 26) dX0_isSeen_25 rfl (r32_c rfl) ?_
      cases h
      exact k2J
    · rw [if_neg (show ¬ ((σ p 0) ≤ x1) from c5)] at h
      refine go_aload_n (pc' := 13) dX0_isSeen_12 rfl rfl (Nat.le_of_ble_eq_true rfl) ?_
      refine go_getR (k' := 14) (L0 := 12) (P' := (p + 15)) (pc' := 16) dX0_isSeen_13 rfl rf_0_57 rfl rfl (by omega) ?_
      refine go_iload_n (pc' := 17) dX0_isSeen_16 rfl rfl ?_
      obtain ⟨g3, h⟩ := gd h
      refine go_zald (pc' := 18) dX0_isSeen_17 rfl g3 ?_
      refine go_if_eq (t := 25) (pc' := 21) dX0_isSeen_18 rfl rfl (fun c4 => ?_) (fun c4 => ?_)
      · rw [if_pos (show (σ (p + 15) x1) = 0 from c4)] at h
        refine go_iconst (pc' := 26) dX0_isSeen_25 rfl (r32_c rfl) ?_
        cases h
        exact k2J
      · rw [if_neg (show ¬ ((σ (p + 15) x1) = 0) from c4)] at h
        refine go_iconst (pc' := 22) dX0_isSeen_21 rfl (r32_c rfl) ?_
        refine go_goto (t := 26) dX0_isSeen_22 rfl ?_
        cases h
        exact k2J

set_option maxRecDepth 10000 in
theorem l_D_standsFor (d : Nat) (n e : Nat) (σ : Hp) (p : Nat) (x1 : Int) (x2 : Int) (r : Int) (h : f_D_standsFor σ p x1 x2 = some r) : Ev (d + 1) 31 [pvR 0 0 p, pvI x1, pvI x2] (true, n, e, σ) (0, some (pvI r), true, n, e, σ) := by
  unfold f_D_standsFor at h
  refine Ev.of mtE31 rfl rfl rfl rfl ?_
  show Go none (Ev (d + 0)) mt31 0 [some (pvR 0 0 p), some (pvI x1), some (pvI x2)] [] (true, n, e, σ) (0, some (pvI r), true, n, e, σ)
  refine go_aload_n (pc' := 1) dX0_standsFor_0 rfl rfl (Nat.le_of_ble_eq_true rfl) ?_
  refine go_getR (k' := 12) (L0 := 12) (P' := (p + 5)) (pc' := 4) dX0_standsFor_1 rfl rf_0_22 rfl rfl (by omega) ?_
  refine go_iload_n (pc' := 5) dX0_standsFor_4 rfl rfl ?_
  obtain ⟨g1, h⟩ := gd h
  refine go_iald (pc' := 6) dX0_standsFor_5 rfl g1 ?_
  refine go_iconst (pc' := 7) dX0_standsFor_6 rfl (r32_c rfl) ?_
  obtain ⟨j2, k3, h⟩ := bd h
  have k3J : Go none (Ev (d + 0)) mt31 29 [some (pvR 0 0 p), some (pvI x1), some (pvI x2)] [pvI j2] (true, n, e, σ) (0, some (pvI r), true, n, e, σ) := by
    obtain ⟨g6, h⟩ := gd h
    cases h
    exact go_zret dX0_standsFor_29 rfl g6 rfl
  clear h
  have h := k3
  refine go_icmp_ne (t := 28) (pc' := 10) dX0_standsFor_7 rfl rfl (fun c7 => ?_) (fun c7 => ?_)
  · rw [if_pos (show (σ (p + 5) x1) ≠ 1 from c7)] at h
    refine go_iconst (pc' := 29) dX0_standsFor_28 rfl (r32_c rfl) ?_
    cases h
    exact k3J
  · rw [if_neg (show ¬ ((σ (p + 5) x1) ≠ 1) from c7)] at h
    refine go_aload_n (pc' := 11) dX0_standsFor_10 rfl rfl (Nat.le_of_ble_eq_true rfl) ?_
    refine go_getR (k' := 12) (L0 := 12) (P' := (p + 8)) (pc' := 14) dX0_standsFor_11 rfl rf_0_32 rfl rfl (by omega) ?_
    refine go_iload_n (pc' := 15) dX0_standsFor_14 rfl rfl ?_
    obtain ⟨g4, h⟩ := gd h
    refine go_iald (pc' := 16) dX0_standsFor_15 rfl g4 ?_
    refine go_iload_n (pc' := 17) dX0_standsFor_16 rfl rfl ?_
    refine go_ishr (pc' := 18) dX0_standsFor_17 rfl ?_
    refine go_iconst (pc' := 19) dX0_standsFor_18 rfl (r32_c rfl) ?_
    refine go_iand (pc' := 20) dX0_standsFor_19 rfl ?_
    refine go_iconst (pc' := 21) dX0_standsFor_20 rfl (r32_c rfl) ?_
    refine go_icmp_ne (t := 28) (pc' := 24) dX0_standsFor_21 rfl rfl (fun c5 => ?_) (fun c5 => ?_)
    · rw [if_pos (show (iand (ishr (σ (p + 8) x1) x2) 1) ≠ 1 from c5)] at h
      refine go_iconst (pc' := 29) dX0_standsFor_28 rfl (r32_c rfl) ?_
      cases h
      exact k3J
    · rw [if_neg (show ¬ ((iand (ishr (σ (p + 8) x1) x2) 1) ≠ 1) from c5)] at h
      refine go_iconst (pc' := 25) dX0_standsFor_24 rfl (r32_c rfl) ?_
      refine go_goto (t := 29) dX0_standsFor_25 rfl ?_
      cases h
      exact k3J

set_option maxRecDepth 10000 in
theorem l_D_isBridgeSeen_2 (d : Nat) (n : Nat) (e : Nat) (σ : Hp) (p : Nat) (x1 : Int) : ∀ (F : Nat) (y1 : Int) (r : Int), f_D_isBridgeSeen_2 σ p x1 F y1 = some r → Go none (Ev (d + 1)) mt30 2 [some (pvR 0 0 p), some (pvI x1), some (pvI y1)] [] (true, n, e, σ) (0, some (pvI r), true, n, e, σ) := by
  intro F
  induction F with
  | zero =>
    intro _ _ h
    rw [f_D_isBridgeSeen_2] at h
    cases h
  | succ F ih =>
    intro y1 r h
    rw [f_D_isBridgeSeen_2] at h
    refine go_iload_n (pc' := 3) dX0_isBridgeSeen_2 rfl rfl ?_
    refine go_iload_n (pc' := 4) dX0_isBridgeSeen_3 rfl rfl ?_
    refine go_icmp_ge (t := 32) (pc' := 7) dX0_isBridgeSeen_4 rfl rfl (fun c12 => ?_) (fun c12 => ?_)
    · rw [if_pos (show x1 ≤ y1 from c12)] at h
      refine go_iconst (pc' := 33) dX0_isBridgeSeen_32 rfl (r32_c rfl) ?_
      obtain ⟨g2, h⟩ := gd h
      cases h
      exact go_zret dX0_isBridgeSeen_33 rfl g2 rfl
    · rw [if_neg (show ¬ (x1 ≤ y1) from c12)] at h
      refine go_aload_n (pc' := 8) dX0_isBridgeSeen_7 rfl rfl (Nat.le_of_ble_eq_true rfl) ?_
      refine go_iload_n (pc' := 9) dX0_isBridgeSeen_8 rfl rfl ?_
      refine go_iload_n (pc' := 10) dX0_isBridgeSeen_9 rfl rfl ?_
      obtain ⟨v3, k4, h⟩ := bd h
      have k4 := l_D_standsFor (d + 0) n e σ p x1 y1 _ k4
      refine go_call (kc := 31) (Mc := mt31) (v := some (pvI v3)) (w' := (true, n, e, σ)) (pc' := 13) (st' := [pvI v3]) [pvR 0 0 p, pvI x1, pvI y1] [] (Or.inl rfl) dX0_isBridgeSeen_10 rfl rm_0_88 mtE31 rfl rfl rfl (Nat.le_of_ble_eq_true rfl) (Or.inr ⟨_, _, p, rfl, Or.inl rfl⟩) k4 rfl ?_
      refine go_if_eq (t := 26) (pc' := 16) dX0_isBridgeSeen_13 rfl rfl (fun c11 => ?_) (fun c11 => ?_)
      · rw [if_pos (show v3 = 0 from c11)] at h
        obtain ⟨g5, h⟩ := gd h
        refine go_iinc (L' := [some (pvR 0 0 p), some (pvI x1), some (pvI (y1 + 1))]) (pc' := 29) dX0_isBridgeSeen_26 rfl rfl g5 rfl ?_
        refine go_goto (t := 2) dX0_isBridgeSeen_29 rfl ?_
        exact ih (y1 + 1) _ h
      · rw [if_neg (show ¬ (v3 = 0) from c11)] at h
        refine go_aload_n (pc' := 17) dX0_isBridgeSeen_16 rfl rfl (Nat.le_of_ble_eq_true rfl) ?_
        refine go_iload_n (pc' := 18) dX0_isBridgeSeen_17 rfl rfl ?_
        obtain ⟨v6, k7, h⟩ := bd h
        have k7 := l_D_isSeen (d + 0) n e σ p y1 _ k7
        refine go_call (kc := 29) (Mc := mt29) (v := some (pvI v6)) (w' := (true, n, e, σ)) (pc' := 21) (st' := [pvI v6]) [pvR 0 0 p, pvI y1] [] (Or.inl rfl) dX0_isBridgeSeen_18 rfl rm_0_82 mtE29 rfl rfl rfl (Nat.le_of_ble_eq_true rfl) (Or.inr ⟨_, _, p, rfl, Or.inl rfl⟩) k7 rfl ?_
        refine go_if_ne (t := 26) (pc' := 24) dX0_isBridgeSeen_21 rfl rfl (fun c10 => ?_) (fun c10 => ?_)
        · rw [if_pos (show v6 ≠ 0 from c10)] at h
          obtain ⟨g8, h⟩ := gd h
          refine go_iinc (L' := [some (pvR 0 0 p), some (pvI x1), some (pvI (y1 + 1))]) (pc' := 29) dX0_isBridgeSeen_26 rfl rfl g8 rfl ?_
          refine go_goto (t := 2) dX0_isBridgeSeen_29 rfl ?_
          exact ih (y1 + 1) _ h
        · rw [if_neg (show ¬ (v6 ≠ 0) from c10)] at h
          refine go_iconst (pc' := 25) dX0_isBridgeSeen_24 rfl (r32_c rfl) ?_
          obtain ⟨g9, h⟩ := gd h
          cases h
          exact go_zret dX0_isBridgeSeen_25 rfl g9 rfl

set_option maxRecDepth 10000 in
theorem l_D_isBridgeSeen (d : Nat) (n e : Nat) (σ : Hp) (p : Nat) (x1 : Int) (r : Int) (h : f_D_isBridgeSeen σ p x1 = some r) : Ev (d + 2) 30 [pvR 0 0 p, pvI x1] (true, n, e, σ) (0, some (pvI r), true, n, e, σ) := by
  unfold f_D_isBridgeSeen at h
  refine Ev.of mtE30 rfl rfl rfl rfl ?_
  show Go none (Ev (d + 1)) mt30 0 [some (pvR 0 0 p), some (pvI x1), none] [] (true, n, e, σ) (0, some (pvI r), true, n, e, σ)
  refine go_iconst (pc' := 1) dX0_isBridgeSeen_0 rfl (r32_c rfl) ?_
  refine go_istore_n (L' := [some (pvR 0 0 p), some (pvI x1), some (pvI 0)]) (pc' := 2) dX0_isBridgeSeen_1 rfl (Nat.le_of_ble_eq_true rfl) rfl ?_
  exact l_D_isBridgeSeen_2 d n e σ p x1 zFuel 0 _ h

set_option maxRecDepth 10000 in
theorem l_D_settle_2 (d : Nat) (n : Nat) (e : Nat) (p : Nat) {out : Out} : ∀ (F : Nat) (y1 : Int) (σ2 : Hp) (j29 : Int × Hp), f_D_settle_2 p F y1 σ2 = some j29 → Go none (Ev (d + 2)) mt28 89 [some (pvR 0 0 p), some (pvI j29.1)] [] (true, n, e, j29.2) out → Go none (Ev (d + 2)) mt28 2 [some (pvR 0 0 p), some (pvI y1)] [] (true, n, e, σ2) out := by
  intro F
  induction F with
  | zero =>
    intro _ _ _ h
    intro _
    rw [f_D_settle_2] at h
    cases h
  | succ F ih =>
    intro y1 σ2 j29 h hx
    rw [f_D_settle_2] at h
    refine go_iload_n (pc' := 3) dX0_settle_2 rfl rfl ?_
    refine go_aload_n (pc' := 4) dX0_settle_3 rfl rfl (Nat.le_of_ble_eq_true rfl) ?_
    refine go_getI (pc' := 7) dX0_settle_4 rfl rf_0_9 rfl ?_
    refine go_icmp_ge (t := 89) (pc' := 10) dX0_settle_7 rfl rfl (fun c28 => ?_) (fun c28 => ?_)
    · rw [if_pos (show (σ2 p 0) ≤ y1 from c28)] at h
      cases h
      exact hx
    · rw [if_neg (show ¬ ((σ2 p 0) ≤ y1) from c28)] at h
      refine go_aload_n (pc' := 11) dX0_settle_10 rfl rfl (Nat.le_of_ble_eq_true rfl) ?_
      refine go_iload_n (pc' := 12) dX0_settle_11 rfl rfl ?_
      obtain ⟨v3, k4, h⟩ := bd h
      have k4 := l_D_isPlain (d + 0) n e σ2 p y1 _ k4
      refine go_call (kc := 18) (Mc := mt18) (v := some (pvI v3)) (w' := (true, n, e, σ2)) (pc' := 15) (st' := [pvI v3]) [pvR 0 0 p, pvI y1] [] (Or.inl rfl) dX0_settle_12 rfl rm_0_69 mtE18 rfl rfl rfl (Nat.le_of_ble_eq_true rfl) (Or.inr ⟨_, _, p, rfl, Or.inl rfl⟩) k4 rfl ?_
      obtain ⟨j5, k6, h⟩ := bd h
      have k6J : Go none (Ev (d + 2)) mt28 83 [some (pvR 0 0 p), some (pvI y1)] [] (true, n, e, j5) out := by
        obtain ⟨g26, h⟩ := gd h
        refine go_iinc (L' := [some (pvR 0 0 p), some (pvI (y1 + 1))]) (pc' := 86) dX0_settle_83 rfl rfl g26 rfl ?_
        refine go_goto (t := 2) dX0_settle_86 rfl ?_
        exact ih (y1 + 1) j5 _ h hx
      clear h
      have h := k6
      refine go_if_eq (t := 72) (pc' := 18) dX0_settle_15 rfl rfl (fun c27 => ?_) (fun c27 => ?_)
      · rw [if_pos (show v3 = 0 from c27)] at h
        refine go_aload_n (pc' := 73) dX0_settle_72 rfl rfl (Nat.le_of_ble_eq_true rfl) ?_
        refine go_getR (k' := 14) (L0 := 12) (P' := (p + 15)) (pc' := 76) dX0_settle_73 rfl rf_0_57 rfl rfl (by omega) ?_
        refine go_iload_n (pc' := 77) dX0_settle_76 rfl rfl ?_
        refine go_aload_n (pc' := 78) dX0_settle_77 rfl rfl (Nat.le_of_ble_eq_true rfl) ?_
        refine go_iload_n (pc' := 79) dX0_settle_78 rfl rfl ?_
        obtain ⟨v7, k8, h⟩ := bd h
        have k8 := l_D_isBridgeSeen (d + 0) n e σ2 p y1 _ k8
        refine go_call (kc := 30) (Mc := mt30) (v := some (pvI v7)) (w' := (true, n, e, σ2)) (pc' := 82) (st' := [pvI v7, pvI y1, pvR 14 12 (p + 15)]) [pvR 0 0 p, pvI y1] [pvI y1, pvR 14 12 (p + 15)] (Or.inl rfl) dX0_settle_79 rfl rm_0_85 mtE30 rfl rfl rfl (Nat.le_of_ble_eq_true rfl) (Or.inr ⟨_, _, p, rfl, Or.inl rfl⟩) k8 rfl ?_
        obtain ⟨g9, h⟩ := gd h
        obtain ⟨g10, h⟩ := gd h
        refine go_zast (pc' := 83) dX0_settle_82 rfl g9 g10 ?_
        cases h
        exact k6J
      · rw [if_neg (show ¬ (v3 = 0) from c27)] at h
        refine go_aload_n (pc' := 19) dX0_settle_18 rfl rfl (Nat.le_of_ble_eq_true rfl) ?_
        refine go_getR (k' := 12) (L0 := 12) (P' := (p + 14)) (pc' := 22) dX0_settle_19 rfl rf_0_54 rfl rfl (by omega) ?_
        refine go_iload_n (pc' := 23) dX0_settle_22 rfl rfl ?_
        refine go_aload_n (pc' := 24) dX0_settle_23 rfl rfl (Nat.le_of_ble_eq_true rfl) ?_
        refine go_aload_n (pc' := 25) dX0_settle_24 rfl rfl (Nat.le_of_ble_eq_true rfl) ?_
        refine go_getR (k' := 12) (L0 := 12) (P' := (p + 13)) (pc' := 28) dX0_settle_25 rfl rf_0_51 rfl rfl (by omega) ?_
        refine go_iload_n (pc' := 29) dX0_settle_28 rfl rfl ?_
        obtain ⟨g11, h⟩ := gd h
        refine go_iald (pc' := 30) dX0_settle_29 rfl g11 ?_
        obtain ⟨v12, k13, h⟩ := bd h
        have k13 := l_D_depthOf (d + 0) n e σ2 p (σ2 (p + 13) y1) _ k13
        refine go_call (kc := 24) (Mc := mt24) (v := some (pvI v12)) (w' := (true, n, e, σ2)) (pc' := 33) (st' := [pvI v12, pvI y1, pvR 12 12 (p + 14)]) [pvR 0 0 p, pvI (σ2 (p + 13) y1)] [pvI y1, pvR 12 12 (p + 14)] (Or.inl rfl) dX0_settle_30 rfl rm_0_79 mtE24 rfl rfl rfl (Nat.le_of_ble_eq_true rfl) (Or.inr ⟨_, _, p, rfl, Or.inl rfl⟩) k13 rfl ?_
        refine go_iconst (pc' := 34) dX0_settle_33 rfl (r32_c rfl) ?_
        obtain ⟨g14, h⟩ := gd h
        refine go_iadd (pc' := 35) dX0_settle_34 rfl g14 ?_
        obtain ⟨g15, h⟩ := gd h
        refine go_iast (pc' := 36) dX0_settle_35 rfl g15 ?_
        refine go_aload_n (pc' := 37) dX0_settle_36 rfl rfl (Nat.le_of_ble_eq_true rfl) ?_
        refine go_getR (k' := 14) (L0 := 12) (P' := (p + 15)) (pc' := 40) dX0_settle_37 rfl rf_0_57 rfl rfl (by omega) ?_
        refine go_iload_n (pc' := 41) dX0_settle_40 rfl rfl ?_
        refine go_aload_n (pc' := 42) dX0_settle_41 rfl rfl (Nat.le_of_ble_eq_true rfl) ?_
        refine go_getR (k' := 14) (L0 := 12) (P' := (p + 10)) (pc' := 45) dX0_settle_42 rfl rf_0_38 rfl rfl (by omega) ?_
        refine go_iload_n (pc' := 46) dX0_settle_45 rfl rfl ?_
        obtain ⟨g16, h⟩ := gd h
        refine go_zald (pc' := 47) dX0_settle_46 rfl g16 ?_
        obtain ⟨j17, k18, h⟩ := bd h
        have k18J : Go none (Ev (d + 2)) mt28 68 [some (pvR 0 0 p), some (pvI y1)] [pvI j17, pvI y1, pvR 14 12 (p + 15)] (true, n, e, (hset σ2 (p + 14) y1 (v12 + 1))) out := by
          obtain ⟨g23, h⟩ := gd h
          obtain ⟨g24, h⟩ := gd h
          refine go_zast (pc' := 69) dX0_settle_68 rfl g23 g24 ?_
          refine go_goto (t := 83) dX0_settle_69 rfl ?_
          cases h
          exact k6J
        clear h
        have h := k18
        refine go_if_ne (t := 67) (pc' := 50) dX0_settle_47 rfl rfl (fun c25 => ?_) (fun c25 => ?_)
        · rw [if_pos (show ((hset σ2 (p + 14) y1 (v12 + 1)) (p + 10) y1) ≠ 0 from c25)] at h
          refine go_iconst (pc' := 68) dX0_settle_67 rfl (r32_c rfl) ?_
          cases h
          exact k18J
        · rw [if_neg (show ¬ (((hset σ2 (p + 14) y1 (v12 + 1)) (p + 10) y1) ≠ 0) from c25)] at h
          refine go_aload_n (pc' := 51) dX0_settle_50 rfl rfl (Nat.le_of_ble_eq_true rfl) ?_
          refine go_aload_n (pc' := 52) dX0_settle_51 rfl rfl (Nat.le_of_ble_eq_true rfl) ?_
          refine go_getR (k' := 12) (L0 := 12) (P' := (p + 13)) (pc' := 55) dX0_settle_52 rfl rf_0_51 rfl rfl (by omega) ?_
          refine go_iload_n (pc' := 56) dX0_settle_55 rfl rfl ?_
          obtain ⟨g19, h⟩ := gd h
          refine go_iald (pc' := 57) dX0_settle_56 rfl g19 ?_
          obtain ⟨v20, k21, h⟩ := bd h
          have k21 := l_D_isSeen (d + 1) n e (hset σ2 (p + 14) y1 (v12 + 1)) p ((hset σ2 (p + 14) y1 (v12 + 1)) (p + 13) y1) _ k21
          refine go_call (kc := 29) (Mc := mt29) (v := some (pvI v20)) (w' := (true, n, e, (hset σ2 (p + 14) y1 (v12 + 1)))) (pc' := 60) (st' := [pvI v20, pvI y1, pvR 14 12 (p + 15)]) [pvR 0 0 p, pvI ((hset σ2 (p + 14) y1 (v12 + 1)) (p + 13) y1)] [pvI y1, pvR 14 12 (p + 15)] (Or.inl rfl) dX0_settle_57 rfl rm_0_82 mtE29 rfl rfl rfl (Nat.le_of_ble_eq_true rfl) (Or.inr ⟨_, _, p, rfl, Or.inl rfl⟩) k21 rfl ?_
          refine go_if_eq (t := 67) (pc' := 63) dX0_settle_60 rfl rfl (fun c22 => ?_) (fun c22 => ?_)
          · rw [if_pos (show v20 = 0 from c22)] at h
            refine go_iconst (pc' := 68) dX0_settle_67 rfl (r32_c rfl) ?_
            cases h
            exact k18J
          · rw [if_neg (show ¬ (v20 = 0) from c22)] at h
            refine go_iconst (pc' := 64) dX0_settle_63 rfl (r32_c rfl) ?_
            refine go_goto (t := 68) dX0_settle_64 rfl ?_
            cases h
            exact k18J

set_option maxRecDepth 10000 in
theorem l_D_settle (d : Nat) (n e : Nat) (σ : Hp) (p : Nat) (r : Hp) (h : f_D_settle σ p = some r) : Ev (d + 3) 28 [pvR 0 0 p] (true, n, e, σ) (0, none, true, n, e, r) := by
  unfold f_D_settle at h
  refine Ev.of mtE28 rfl rfl rfl rfl ?_
  show Go none (Ev (d + 2)) mt28 0 [some (pvR 0 0 p), none] [] (true, n, e, σ) (0, none, true, n, e, r)
  refine go_iconst (pc' := 1) dX0_settle_0 rfl (r32_c rfl) ?_
  refine go_istore_n (L' := [some (pvR 0 0 p), some (pvI 1)]) (pc' := 2) dX0_settle_1 rfl (Nat.le_of_ble_eq_true rfl) rfl ?_
  obtain ⟨j30, k31, h⟩ := bd h
  refine l_D_settle_2 d n e p zFuel 1 σ _ k31 ?_
  cases h
  exact go_vret dX0_settle_89 rfl rfl

set_option maxRecDepth 10000 in
theorem l_D_weightByBridge_3 (d : Nat) (n : Nat) (e : Nat) (σ : Hp) (p : Nat) (x1 : Int) (x2 : Int) (x3 : Int) : ∀ (F : Nat) (y1 : Int) (r : Int), f_D_weightByBridge_3 σ p x1 x2 x3 F y1 = some r → Go none (Ev (d + 1)) mt34 3 [some (pvR 0 0 p), some (pvI x1), some (pvI x2), some (pvI x3), some (pvI y1), none] [] (true, n, e, σ) (0, some (pvI r), true, n, e, σ) := by
  intro F
  induction F with
  | zero =>
    intro _ _ h
    rw [f_D_weightByBridge_3] at h
    cases h
  | succ F ih =>
    intro y1 r h
    rw [f_D_weightByBridge_3] at h
    refine go_iload (pc' := 5) dX0_weightByBridge_3 rfl rfl ?_
    refine go_iload_n (pc' := 6) dX0_weightByBridge_5 rfl rfl ?_
    refine go_icmp_ge (t := 50) (pc' := 9) dX0_weightByBridge_6 rfl rfl (fun c12 => ?_) (fun c12 => ?_)
    · rw [if_pos (show x3 ≤ y1 from c12)] at h
      refine go_iconst (pc' := 51) dX0_weightByBridge_50 rfl (r32_c rfl) ?_
      cases h
      exact go_iret dX0_weightByBridge_51 rfl rfl
    · rw [if_neg (show ¬ (x3 ≤ y1) from c12)] at h
      refine go_aload_n (pc' := 10) dX0_weightByBridge_9 rfl rfl (Nat.le_of_ble_eq_true rfl) ?_
      refine go_getR (k' := 16) (L0 := 13) (P' := (p + 16)) (pc' := 13) dX0_weightByBridge_10 rfl rf_0_62 rfl rfl (by omega) ?_
      refine go_iload_n (pc' := 14) dX0_weightByBridge_13 rfl rfl ?_
      obtain ⟨g2, h⟩ := gd h
      refine go_rald (pc' := 15) dX0_weightByBridge_14 rfl g2 ?_
      refine go_iload_n (pc' := 16) dX0_weightByBridge_15 rfl rfl ?_
      refine go_bipush (pc' := 18) dX0_weightByBridge_16 rfl (r32_c rfl) (by decide) ?_
      obtain ⟨g3, h⟩ := gd h
      refine go_imul (pc' := 19) dX0_weightByBridge_18 rfl g3 ?_
      refine go_iload (pc' := 21) dX0_weightByBridge_19 rfl rfl ?_
      obtain ⟨g4, h⟩ := gd h
      refine go_iadd (pc' := 22) dX0_weightByBridge_21 rfl g4 ?_
      obtain ⟨g5, h⟩ := gd h
      refine go_iald (pc' := 23) dX0_weightByBridge_22 rfl g5 ?_
      refine go_istore (L' := [some (pvR 0 0 p), some (pvI x1), some (pvI x2), some (pvI x3), some (pvI y1), some (pvI (σ ((p + 16) + 1 + Int.toNat x1) ((x2 * 12) + y1)))]) (pc' := 25) dX0_weightByBridge_23 rfl (Nat.le_of_ble_eq_true rfl) rfl ?_
      refine go_aload_n (pc' := 26) dX0_weightByBridge_25 rfl rfl (Nat.le_of_ble_eq_true rfl) ?_
      refine go_iload_n (pc' := 27) dX0_weightByBridge_26 rfl rfl ?_
      refine go_iload (pc' := 29) dX0_weightByBridge_27 rfl rfl ?_
      obtain ⟨v6, k7, h⟩ := bd h
      have k7 := l_D_standsFor (d + 0) n e σ p x3 y1 _ k7
      refine go_call (kc := 31) (Mc := mt31) (v := some (pvI v6)) (w' := (true, n, e, σ)) (pc' := 32) (st' := [pvI v6]) [pvR 0 0 p, pvI x3, pvI y1] [] (Or.inl rfl) dX0_weightByBridge_29 rfl rm_0_88 mtE31 rfl rfl rfl (Nat.le_of_ble_eq_true rfl) (Or.inr ⟨_, _, p, rfl, Or.inl rfl⟩) k7 rfl ?_
      refine go_if_eq (t := 44) (pc' := 35) dX0_weightByBridge_32 rfl rfl (fun c11 => ?_) (fun c11 => ?_)
      · rw [if_pos (show v6 = 0 from c11)] at h
        obtain ⟨g8, h⟩ := gd h
        refine go_iinc (L' := [some (pvR 0 0 p), some (pvI x1), some (pvI x2), some (pvI x3), some (pvI (y1 + 1)), some (pvI (σ ((p + 16) + 1 + Int.toNat x1) ((x2 * 12) + y1)))]) (pc' := 47) dX0_weightByBridge_44 rfl rfl g8 rfl ?_
        refine go_goto (t := 3) dX0_weightByBridge_47 rfl ?_
        exact go_sub (ih (y1 + 1) _ h) ⟨Or.inr rfl, Or.inr rfl, Or.inr rfl, Or.inr rfl, Or.inr rfl, Or.inl rfl, trivial⟩
      · rw [if_neg (show ¬ (v6 = 0) from c11)] at h
        refine go_iload (pc' := 37) dX0_weightByBridge_35 rfl rfl ?_
        refine go_iconst (pc' := 38) dX0_weightByBridge_37 rfl (r32_c rfl) ?_
        refine go_icmp_eq (t := 44) (pc' := 41) dX0_weightByBridge_38 rfl rfl (fun c10 => ?_) (fun c10 => ?_)
        · rw [if_pos (show (σ ((p + 16) + 1 + Int.toNat x1) ((x2 * 12) + y1)) = 2 from c10)] at h
          obtain ⟨g9, h⟩ := gd h
          refine go_iinc (L' := [some (pvR 0 0 p), some (pvI x1), some (pvI x2), some (pvI x3), some (pvI (y1 + 1)), some (pvI (σ ((p + 16) + 1 + Int.toNat x1) ((x2 * 12) + y1)))]) (pc' := 47) dX0_weightByBridge_44 rfl rfl g9 rfl ?_
          refine go_goto (t := 3) dX0_weightByBridge_47 rfl ?_
          exact go_sub (ih (y1 + 1) _ h) ⟨Or.inr rfl, Or.inr rfl, Or.inr rfl, Or.inr rfl, Or.inr rfl, Or.inl rfl, trivial⟩
        · rw [if_neg (show ¬ ((σ ((p + 16) + 1 + Int.toNat x1) ((x2 * 12) + y1)) = 2) from c10)] at h
          refine go_iload (pc' := 43) dX0_weightByBridge_41 rfl rfl ?_
          cases h
          exact go_iret dX0_weightByBridge_43 rfl rfl

set_option maxRecDepth 10000 in
theorem l_D_weightByBridge (d : Nat) (n e : Nat) (σ : Hp) (p : Nat) (x1 : Int) (x2 : Int) (x3 : Int) (r : Int) (h : f_D_weightByBridge σ p x1 x2 x3 = some r) : Ev (d + 2) 34 [pvR 0 0 p, pvI x1, pvI x2, pvI x3] (true, n, e, σ) (0, some (pvI r), true, n, e, σ) := by
  unfold f_D_weightByBridge at h
  refine Ev.of mtE34 rfl rfl rfl rfl ?_
  show Go none (Ev (d + 1)) mt34 0 [some (pvR 0 0 p), some (pvI x1), some (pvI x2), some (pvI x3), none, none] [] (true, n, e, σ) (0, some (pvI r), true, n, e, σ)
  refine go_iconst (pc' := 1) dX0_weightByBridge_0 rfl (r32_c rfl) ?_
  refine go_istore (L' := [some (pvR 0 0 p), some (pvI x1), some (pvI x2), some (pvI x3), some (pvI 0), none]) (pc' := 3) dX0_weightByBridge_1 rfl (Nat.le_of_ble_eq_true rfl) rfl ?_
  exact l_D_weightByBridge_3 d n e σ p x1 x2 x3 zFuel 0 _ h

set_option maxRecDepth 10000 in
theorem l_D_weightOver (d : Nat) (n e : Nat) (σ : Hp) (p : Nat) (x1 : Int) (x2 : Int) (x3 : Int) (x4 : Int) (r : Int) (h : f_D_weightOver σ p x1 x2 x3 x4 = some r) : Ev (d + 3) 33 [pvR 0 0 p, pvI x1, pvI x2, pvI x3, pvI x4] (true, n, e, σ) (0, some (pvI r), true, n, e, σ) := by
  unfold f_D_weightOver at h
  refine Ev.of mtE33 rfl rfl rfl rfl ?_
  show Go none (Ev (d + 2)) mt33 0 [some (pvR 0 0 p), some (pvI x1), some (pvI x2), some (pvI x3), some (pvI x4), none] [] (true, n, e, σ) (0, some (pvI r), true, n, e, σ)
  refine go_aload_n (pc' := 1) dX0_weightOver_0 rfl rfl (Nat.le_of_ble_eq_true rfl) ?_
  refine go_iload (pc' := 3) dX0_weightOver_1 rfl rfl ?_
  obtain ⟨v1, k2, h⟩ := bd h
  have k2 := l_D_isPlain (d + 0) n e σ p x4 _ k2
  refine go_call (kc := 18) (Mc := mt18) (v := some (pvI v1)) (w' := (true, n, e, σ)) (pc' := 6) (st' := [pvI v1]) [pvR 0 0 p, pvI x4] [] (Or.inl rfl) dX0_weightOver_3 rfl rm_0_69 mtE18 rfl rfl rfl (Nat.le_of_ble_eq_true rfl) (Or.inr ⟨_, _, p, rfl, Or.inl rfl⟩) k2 rfl ?_
  refine go_if_ne (t := 18) (pc' := 9) dX0_weightOver_6 rfl rfl (fun c18 => ?_) (fun c18 => ?_)
  · rw [if_pos (show v1 ≠ 0 from c18)] at h
    refine go_iload (pc' := 20) dX0_weightOver_18 rfl rfl ?_
    refine go_iload_n (pc' := 21) dX0_weightOver_20 rfl rfl ?_
    refine go_icmp_ne (t := 26) (pc' := 24) dX0_weightOver_21 rfl rfl (fun c15 => ?_) (fun c15 => ?_)
    · rw [if_pos (show x4 ≠ x2 from c15)] at h
      refine go_iload_n (pc' := 27) dX0_weightOver_26 rfl rfl ?_
      refine go_iload (pc' := 29) dX0_weightOver_27 rfl rfl ?_
      obtain ⟨j3, k4, h⟩ := bd h
      have k4J : Go none (Ev (d + 2)) mt33 50 [some (pvR 0 0 p), some (pvI x1), some (pvI x2), some (pvI x3), some (pvI x4), none] [pvI j3] (true, n, e, σ) (0, some (pvI r), true, n, e, σ) := by
        refine go_istore (L' := [some (pvR 0 0 p), some (pvI x1), some (pvI x2), some (pvI x3), some (pvI x4), some (pvI j3)]) (pc' := 52) dX0_weightOver_50 rfl (Nat.le_of_ble_eq_true rfl) rfl ?_
        refine go_iload (pc' := 54) dX0_weightOver_52 rfl rfl ?_
        refine go_iconst (pc' := 55) dX0_weightOver_54 rfl (r32_c rfl) ?_
        obtain ⟨j9, k10, h⟩ := bd h
        have k10J : Go none (Ev (d + 2)) mt33 71 [some (pvR 0 0 p), some (pvI x1), some (pvI x2), some (pvI x3), some (pvI x4), some (pvI j3)] [pvI j9] (true, n, e, σ) (0, some (pvI r), true, n, e, σ) := by
          cases h
          exact go_iret dX0_weightOver_71 rfl rfl
        clear h
        have h := k10
        refine go_icmp_ne (t := 62) (pc' := 58) dX0_weightOver_55 rfl rfl (fun c13 => ?_) (fun c13 => ?_)
        · rw [if_pos (show j3 ≠ 2 from c13)] at h
          refine go_iload (pc' := 64) dX0_weightOver_62 rfl rfl ?_
          refine go_aload_n (pc' := 65) dX0_weightOver_64 rfl rfl (Nat.le_of_ble_eq_true rfl) ?_
          refine go_getR (k' := 12) (L0 := 12) (P' := (p + 7)) (pc' := 68) dX0_weightOver_65 rfl rf_0_29 rfl rfl (by omega) ?_
          refine go_iload_n (pc' := 69) dX0_weightOver_68 rfl rfl ?_
          obtain ⟨g11, h⟩ := gd h
          refine go_iald (pc' := 70) dX0_weightOver_69 rfl g11 ?_
          obtain ⟨g12, h⟩ := gd h
          refine go_imul (pc' := 71) dX0_weightOver_70 rfl g12 ?_
          cases h
          exact k10J
        · rw [if_neg (show ¬ (j3 ≠ 2) from c13)] at h
          refine go_iconst (pc' := 59) dX0_weightOver_58 rfl (r32_c rfl) ?_
          refine go_goto (t := 71) dX0_weightOver_59 rfl ?_
          cases h
          exact k10J
      clear h
      have h := k4
      refine go_icmp_ge (t := 36) (pc' := 32) dX0_weightOver_29 rfl rfl (fun c14 => ?_) (fun c14 => ?_)
      · rw [if_pos (show x4 ≤ x3 from c14)] at h
        refine go_aload_n (pc' := 37) dX0_weightOver_36 rfl rfl (Nat.le_of_ble_eq_true rfl) ?_
        refine go_getR (k' := 16) (L0 := 13) (P' := (p + 16)) (pc' := 40) dX0_weightOver_37 rfl rf_0_62 rfl rfl (by omega) ?_
        refine go_iload_n (pc' := 41) dX0_weightOver_40 rfl rfl ?_
        obtain ⟨g5, h⟩ := gd h
        refine go_rald (pc' := 42) dX0_weightOver_41 rfl g5 ?_
        refine go_iload_n (pc' := 43) dX0_weightOver_42 rfl rfl ?_
        refine go_bipush (pc' := 45) dX0_weightOver_43 rfl (r32_c rfl) (by decide) ?_
        obtain ⟨g6, h⟩ := gd h
        refine go_imul (pc' := 46) dX0_weightOver_45 rfl g6 ?_
        refine go_iload (pc' := 48) dX0_weightOver_46 rfl rfl ?_
        obtain ⟨g7, h⟩ := gd h
        refine go_iadd (pc' := 49) dX0_weightOver_48 rfl g7 ?_
        obtain ⟨g8, h⟩ := gd h
        refine go_iald (pc' := 50) dX0_weightOver_49 rfl g8 ?_
        cases h
        exact k4J
      · rw [if_neg (show ¬ (x4 ≤ x3) from c14)] at h
        refine go_iconst (pc' := 33) dX0_weightOver_32 rfl (r32_c rfl) ?_
        refine go_goto (t := 50) dX0_weightOver_33 rfl ?_
        cases h
        exact k4J
    · rw [if_neg (show ¬ (x4 ≠ x2) from c15)] at h
      refine go_iconst (pc' := 25) dX0_weightOver_24 rfl (r32_c rfl) ?_
      cases h
      exact go_iret dX0_weightOver_25 rfl rfl
  · rw [if_neg (show ¬ (v1 ≠ 0) from c18)] at h
    refine go_aload_n (pc' := 10) dX0_weightOver_9 rfl rfl (Nat.le_of_ble_eq_true rfl) ?_
    refine go_iload_n (pc' := 11) dX0_weightOver_10 rfl rfl ?_
    refine go_iload_n (pc' := 12) dX0_weightOver_11 rfl rfl ?_
    refine go_iload (pc' := 14) dX0_weightOver_12 rfl rfl ?_
    obtain ⟨v16, k17, h⟩ := bd h
    have k17 := l_D_weightByBridge (d + 0) n e σ p x1 x2 x4 _ k17
    refine go_call (kc := 34) (Mc := mt34) (v := some (pvI v16)) (w' := (true, n, e, σ)) (pc' := 17) (st' := [pvI v16]) [pvR 0 0 p, pvI x1, pvI x2, pvI x4] [] (Or.inl rfl) dX0_weightOver_14 rfl rm_0_110 mtE34 rfl rfl rfl (Nat.le_of_ble_eq_true rfl) (Or.inr ⟨_, _, p, rfl, Or.inl rfl⟩) k17 rfl ?_
    cases h
    exact go_iret dX0_weightOver_17 rfl rfl

set_option maxRecDepth 10000 in
theorem l_D_weighRow_53 (d : Nat) (n : Nat) (e : Nat) (p : Nat) (x1 : Int) (x2 : Int) (j7 : Int) (y1 : Int) {out : Out} : ∀ (F : Nat) (y12 : Int) (σ13 : Hp) (j22 : Int × Hp), f_D_weighRow_53 p x1 j7 y1 F y12 σ13 = some j22 → Go none (Ev (d + 3)) mt32 94 [some (pvR 0 0 p), some (pvI x1), some (pvI x2), some (pvR 9 0 92), some (pvI y1), some (pvI j7), some (pvI j22.1)] [] (true, n, e, j22.2) out → Go none (Ev (d + 3)) mt32 53 [some (pvR 0 0 p), some (pvI x1), some (pvI x2), some (pvR 9 0 92), some (pvI y1), some (pvI j7), some (pvI y12)] [] (true, n, e, σ13) out := by
  intro F
  induction F with
  | zero =>
    intro _ _ _ h
    intro _
    rw [f_D_weighRow_53] at h
    cases h
  | succ F ih =>
    intro y12 σ13 j22 h hx
    rw [f_D_weighRow_53] at h
    refine go_iload (pc' := 55) dX0_weighRow_53 rfl rfl ?_
    refine go_aload_n (pc' := 56) dX0_weighRow_55 rfl rfl (Nat.le_of_ble_eq_true rfl) ?_
    refine go_getI (pc' := 59) dX0_weighRow_56 rfl rf_0_9 rfl ?_
    refine go_icmp_ge (t := 94) (pc' := 62) dX0_weighRow_59 rfl rfl (fun c21 => ?_) (fun c21 => ?_)
    · rw [if_pos (show (σ13 p 0) ≤ y12 from c21)] at h
      cases h
      exact hx
    · rw [if_neg (show ¬ ((σ13 p 0) ≤ y12) from c21)] at h
      refine go_aload_n (pc' := 63) dX0_weighRow_62 rfl rfl (Nat.le_of_ble_eq_true rfl) ?_
      refine go_getR (k' := 16) (L0 := 13) (P' := (p + 16)) (pc' := 66) dX0_weighRow_63 rfl rf_0_62 rfl rfl (by omega) ?_
      refine go_iload_n (pc' := 67) dX0_weighRow_66 rfl rfl ?_
      obtain ⟨g14, h⟩ := gd h
      refine go_rald (pc' := 68) dX0_weighRow_67 rfl g14 ?_
      refine go_iload (pc' := 70) dX0_weighRow_68 rfl rfl ?_
      refine go_bipush (pc' := 72) dX0_weighRow_70 rfl (r32_c rfl) (by decide) ?_
      obtain ⟨g15, h⟩ := gd h
      refine go_imul (pc' := 73) dX0_weighRow_72 rfl g15 ?_
      refine go_iload (pc' := 75) dX0_weighRow_73 rfl rfl ?_
      obtain ⟨g16, h⟩ := gd h
      refine go_iadd (pc' := 76) dX0_weighRow_75 rfl g16 ?_
      refine go_aload_n (pc' := 77) dX0_weighRow_76 rfl rfl (Nat.le_of_ble_eq_true rfl) ?_
      refine go_iload_n (pc' := 78) dX0_weighRow_77 rfl rfl ?_
      refine go_iload (pc' := 80) dX0_weighRow_78 rfl rfl ?_
      refine go_iload (pc' := 82) dX0_weighRow_80 rfl rfl ?_
      refine go_iload (pc' := 84) dX0_weighRow_82 rfl rfl ?_
      obtain ⟨v17, k18, h⟩ := bd h
      have k18 := l_D_weightOver (d + 0) n e σ13 p x1 y1 j7 y12 _ k18
      refine go_call (kc := 33) (Mc := mt33) (v := some (pvI v17)) (w' := (true, n, e, σ13)) (pc' := 87) (st' := [pvI v17, pvI ((y1 * 12) + y12), pvR 12 144 ((p + 16) + 1 + Int.toNat x1)]) [pvR 0 0 p, pvI x1, pvI y1, pvI j7, pvI y12] [pvI ((y1 * 12) + y12), pvR 12 144 ((p + 16) + 1 + Int.toNat x1)] (Or.inl rfl) dX0_weighRow_84 rfl rm_0_106 mtE33 rfl rfl rfl (Nat.le_of_ble_eq_true rfl) (Or.inr ⟨_, _, p, rfl, Or.inl rfl⟩) k18 rfl ?_
      obtain ⟨g19, h⟩ := gd h
      refine go_iast (pc' := 88) dX0_weighRow_87 rfl g19 ?_
      obtain ⟨g20, h⟩ := gd h
      refine go_iinc (L' := [some (pvR 0 0 p), some (pvI x1), some (pvI x2), some (pvR 9 0 92), some (pvI y1), some (pvI j7), some (pvI (y12 + 1))]) (pc' := 91) dX0_weighRow_88 rfl rfl g20 rfl ?_
      refine go_goto (t := 53) dX0_weighRow_91 rfl ?_
      exact ih (y12 + 1) (hset σ13 ((p + 16) + 1 + Int.toNat x1) ((y1 * 12) + y12) v17) _ h hx

set_option maxRecDepth 10000 in
theorem l_D_weighRow_3 (d : Nat) (n : Nat) (e : Nat) (p : Nat) (x1 : Int) (x2 : Int) {out : Out} : ∀ (F : Nat) (y1 : Int) (σ2 : Hp) (j29 : Int × Hp), f_D_weighRow_3 p x1 x2 F y1 σ2 = some j29 → Go none (Ev (d + 3)) mt32 100 [some (pvR 0 0 p), some (pvI x1), some (pvI x2), some (pvR 9 0 92), some (pvI j29.1), none, none] [] (true, n, e, j29.2) out → Go none (Ev (d + 3)) mt32 3 [some (pvR 0 0 p), some (pvI x1), some (pvI x2), some (pvR 9 0 92), some (pvI y1), none, none] [] (true, n, e, σ2) out := by
  intro F
  induction F with
  | zero =>
    intro _ _ _ h
    intro _
    rw [f_D_weighRow_3] at h
    cases h
  | succ F ih =>
    intro y1 σ2 j29 h hx
    rw [f_D_weighRow_3] at h
    refine go_iload (pc' := 5) dX0_weighRow_3 rfl rfl ?_
    refine go_aload_n (pc' := 6) dX0_weighRow_5 rfl rfl (Nat.le_of_ble_eq_true rfl) ?_
    refine go_getI (pc' := 9) dX0_weighRow_6 rfl rf_0_9 rfl ?_
    refine go_icmp_ge (t := 100) (pc' := 12) dX0_weighRow_9 rfl rfl (fun c28 => ?_) (fun c28 => ?_)
    · rw [if_pos (show (σ2 p 0) ≤ y1 from c28)] at h
      cases h
      exact hx
    · rw [if_neg (show ¬ ((σ2 p 0) ≤ y1) from c28)] at h
      refine go_aload_n (pc' := 13) dX0_weighRow_12 rfl rfl (Nat.le_of_ble_eq_true rfl) ?_
      refine go_iload (pc' := 15) dX0_weighRow_13 rfl rfl ?_
      obtain ⟨v3, k4, h⟩ := bd h
      have k4 := l_D_isPlain (d + 1) n e σ2 p y1 _ k4
      refine go_call (kc := 18) (Mc := mt18) (v := some (pvI v3)) (w' := (true, n, e, σ2)) (pc' := 18) (st' := [pvI v3]) [pvR 0 0 p, pvI y1] [] (Or.inl rfl) dX0_weighRow_15 rfl rm_0_69 mtE18 rfl rfl rfl (Nat.le_of_ble_eq_true rfl) (Or.inr ⟨_, _, p, rfl, Or.inl rfl⟩) k4 rfl ?_
      obtain ⟨j5, k6, h⟩ := bd h
      have k6J : Go none (Ev (d + 3)) mt32 94 [some (pvR 0 0 p), some (pvI x1), some (pvI x2), some (pvR 9 0 92), some (pvI y1), none, none] [] (true, n, e, j5) out := by
        obtain ⟨g26, h⟩ := gd h
        refine go_iinc (L' := [some (pvR 0 0 p), some (pvI x1), some (pvI x2), some (pvR 9 0 92), some (pvI (y1 + 1)), none, none]) (pc' := 97) dX0_weighRow_94 rfl rfl g26 rfl ?_
        refine go_goto (t := 3) dX0_weighRow_97 rfl ?_
        exact ih (y1 + 1) j5 _ h hx
      clear h
      have h := k6
      refine go_if_eq (t := 94) (pc' := 21) dX0_weighRow_18 rfl rfl (fun c27 => ?_) (fun c27 => ?_)
      · rw [if_pos (show v3 = 0 from c27)] at h
        cases h
        exact k6J
      · rw [if_neg (show ¬ (v3 = 0) from c27)] at h
        refine go_iload (pc' := 23) dX0_weighRow_21 rfl rfl ?_
        obtain ⟨j7, k8, h⟩ := bd h
        have k8J : Go none (Ev (d + 3)) mt32 48 [some (pvR 0 0 p), some (pvI x1), some (pvI x2), some (pvR 9 0 92), some (pvI y1), none, none] [pvI j7] (true, n, e, σ2) out := by
          refine go_istore (L' := [some (pvR 0 0 p), some (pvI x1), some (pvI x2), some (pvR 9 0 92), some (pvI y1), some (pvI j7), none]) (pc' := 50) dX0_weighRow_48 rfl (Nat.le_of_ble_eq_true rfl) rfl ?_
          refine go_iconst (pc' := 51) dX0_weighRow_50 rfl (r32_c rfl) ?_
          refine go_istore (L' := [some (pvR 0 0 p), some (pvI x1), some (pvI x2), some (pvR 9 0 92), some (pvI y1), some (pvI j7), some (pvI 0)]) (pc' := 53) dX0_weighRow_51 rfl (Nat.le_of_ble_eq_true rfl) rfl ?_
          obtain ⟨j23, k24, h⟩ := bd h
          refine l_D_weighRow_53 d n e p x1 x2 j7 y1 zFuel 0 σ2 _ k24 ?_
          cases h
          exact go_sub k6J ⟨Or.inr rfl, Or.inr rfl, Or.inr rfl, Or.inr rfl, Or.inr rfl, Or.inl rfl, Or.inl rfl, trivial⟩
        clear h
        have h := k8
        refine go_if_ne (t := 30) (pc' := 26) dX0_weighRow_23 rfl rfl (fun c25 => ?_) (fun c25 => ?_)
        · rw [if_pos (show y1 ≠ 0 from c25)] at h
          refine go_aload_n (pc' := 31) dX0_weighRow_30 rfl rfl (Nat.le_of_ble_eq_true rfl) ?_
          refine go_getR (k' := 5) (L0 := 0) (P' := (p + 1)) (pc' := 34) dX0_weighRow_31 rfl rf_0_18 rfl rfl (by omega) ?_
          refine go_iload (pc' := 36) dX0_weighRow_34 rfl rfl ?_
          refine go_aload_n (pc' := 37) dX0_weighRow_36 rfl rfl (Nat.le_of_ble_eq_true rfl) ?_
          refine go_getR (k' := 12) (L0 := 12) (P' := (p + 6)) (pc' := 40) dX0_weighRow_37 rfl rf_0_26 rfl rfl (by omega) ?_
          refine go_iload (pc' := 42) dX0_weighRow_40 rfl rfl ?_
          obtain ⟨g9, h⟩ := gd h
          refine go_iald (pc' := 43) dX0_weighRow_42 rfl g9 ?_
          refine go_iload_n (pc' := 44) dX0_weighRow_43 rfl rfl ?_
          refine go_aload_n (pc' := 45) dX0_weighRow_44 rfl rfl (Nat.le_of_ble_eq_true rfl) ?_
          obtain ⟨v10, k11, h⟩ := bd h
          have k11 := l_MV_parentAt (d + 1) n e σ2 (p + 1) y1 (σ2 (p + 6) y1) x2 _ k11
          refine go_call (kc := 27) (Mc := mt27) (v := some (pvI v10)) (w' := (true, n, e, σ2)) (pc' := 48) (st' := [pvI v10]) [pvR 5 0 (p + 1), pvI y1, pvI (σ2 (p + 6) y1), pvI x2, pvR 9 0 92] [] (Or.inl rfl) dX0_weighRow_45 rfl rm_0_92 mtE27 rfl rfl rfl (Nat.le_of_ble_eq_true rfl) (Or.inr ⟨_, _, (p + 1), rfl, Or.inl rfl⟩) k11 rfl ?_
          cases h
          exact k8J
        · rw [if_neg (show ¬ (y1 ≠ 0) from c25)] at h
          refine go_iconst (pc' := 27) dX0_weighRow_26 rfl (r32_c rfl) ?_
          refine go_goto (t := 48) dX0_weighRow_27 rfl ?_
          cases h
          exact k8J

set_option maxRecDepth 10000 in
theorem l_D_weighRow (d : Nat) (n e : Nat) (σ : Hp) (p : Nat) (x1 : Int) (x2 : Int) (r : Hp) (h : f_D_weighRow σ p x1 x2 = some r) : Ev (d + 4) 32 [pvR 0 0 p, pvI x1, pvI x2, pvR 9 0 92] (true, n, e, σ) (0, none, true, n, e, r) := by
  unfold f_D_weighRow at h
  refine Ev.of mtE32 rfl rfl rfl rfl ?_
  show Go none (Ev (d + 3)) mt32 0 [some (pvR 0 0 p), some (pvI x1), some (pvI x2), some (pvR 9 0 92), none, none, none] [] (true, n, e, σ) (0, none, true, n, e, r)
  refine go_iconst (pc' := 1) dX0_weighRow_0 rfl (r32_c rfl) ?_
  refine go_istore (L' := [some (pvR 0 0 p), some (pvI x1), some (pvI x2), some (pvR 9 0 92), some (pvI 0), none, none]) (pc' := 3) dX0_weighRow_1 rfl (Nat.le_of_ble_eq_true rfl) rfl ?_
  obtain ⟨j30, k31, h⟩ := bd h
  refine l_D_weighRow_3 d n e p x1 x2 zFuel 0 σ _ k31 ?_
  cases h
  exact go_vret dX0_weighRow_100 rfl rfl

set_option maxRecDepth 10000 in
theorem l_D_weigh_2 (d : Nat) (n : Nat) (e : Nat) (p : Nat) {out : Out} : ∀ (F : Nat) (y1 : Int) (σ2 : Hp) (j14 : Int × Hp), f_D_weigh_2 p F y1 σ2 = some j14 → Go none (Ev (d + 4)) mt26 47 [some (pvR 0 0 p), some (pvR 9 0 92), some (pvI j14.1)] [] (true, n, e, j14.2) out → Go none (Ev (d + 4)) mt26 2 [some (pvR 0 0 p), some (pvR 9 0 92), some (pvI y1)] [] (true, n, e, σ2) out := by
  intro F
  induction F with
  | zero =>
    intro _ _ _ h
    intro _
    rw [f_D_weigh_2] at h
    cases h
  | succ F ih =>
    intro y1 σ2 j14 h hx
    rw [f_D_weigh_2] at h
    refine go_iload_n (pc' := 3) dX0_weigh_2 rfl rfl ?_
    refine go_aload_n (pc' := 4) dX0_weigh_3 rfl rfl (Nat.le_of_ble_eq_true rfl) ?_
    refine go_getI (pc' := 7) dX0_weigh_4 rfl rf_0_9 rfl ?_
    refine go_icmp_ge (t := 47) (pc' := 10) dX0_weigh_7 rfl rfl (fun c13 => ?_) (fun c13 => ?_)
    · rw [if_pos (show (σ2 p 0) ≤ y1 from c13)] at h
      cases h
      exact hx
    · rw [if_neg (show ¬ ((σ2 p 0) ≤ y1) from c13)] at h
      refine go_aload_n (pc' := 11) dX0_weigh_10 rfl rfl (Nat.le_of_ble_eq_true rfl) ?_
      refine go_iload_n (pc' := 12) dX0_weigh_11 rfl rfl ?_
      obtain ⟨v3, k4, h⟩ := bd h
      have k4 := l_D_isPlain (d + 2) n e σ2 p y1 _ k4
      refine go_call (kc := 18) (Mc := mt18) (v := some (pvI v3)) (w' := (true, n, e, σ2)) (pc' := 15) (st' := [pvI v3]) [pvR 0 0 p, pvI y1] [] (Or.inl rfl) dX0_weigh_12 rfl rm_0_69 mtE18 rfl rfl rfl (Nat.le_of_ble_eq_true rfl) (Or.inr ⟨_, _, p, rfl, Or.inl rfl⟩) k4 rfl ?_
      obtain ⟨j5, k6, h⟩ := bd h
      have k6J : Go none (Ev (d + 4)) mt26 41 [some (pvR 0 0 p), some (pvR 9 0 92), some (pvI y1)] [] (true, n, e, j5) out := by
        obtain ⟨g11, h⟩ := gd h
        refine go_iinc (L' := [some (pvR 0 0 p), some (pvR 9 0 92), some (pvI (y1 + 1))]) (pc' := 44) dX0_weigh_41 rfl rfl g11 rfl ?_
        refine go_goto (t := 2) dX0_weigh_44 rfl ?_
        exact ih (y1 + 1) j5 _ h hx
      clear h
      have h := k6
      refine go_if_eq (t := 41) (pc' := 18) dX0_weigh_15 rfl rfl (fun c12 => ?_) (fun c12 => ?_)
      · rw [if_pos (show v3 = 0 from c12)] at h
        cases h
        exact k6J
      · rw [if_neg (show ¬ (v3 = 0) from c12)] at h
        refine go_aload_n (pc' := 19) dX0_weigh_18 rfl rfl (Nat.le_of_ble_eq_true rfl) ?_
        refine go_getR (k' := 12) (L0 := 12) (P' := (p + 13)) (pc' := 22) dX0_weigh_19 rfl rf_0_51 rfl rfl (by omega) ?_
        refine go_iload_n (pc' := 23) dX0_weigh_22 rfl rfl ?_
        refine go_aload_n (pc' := 24) dX0_weigh_23 rfl rfl (Nat.le_of_ble_eq_true rfl) ?_
        refine go_getR (k' := 5) (L0 := 0) (P' := (p + 1)) (pc' := 27) dX0_weigh_24 rfl rf_0_18 rfl rfl (by omega) ?_
        refine go_iload_n (pc' := 28) dX0_weigh_27 rfl rfl ?_
        refine go_aload_n (pc' := 29) dX0_weigh_28 rfl rfl (Nat.le_of_ble_eq_true rfl) ?_
        refine go_getR (k' := 12) (L0 := 12) (P' := (p + 6)) (pc' := 32) dX0_weigh_29 rfl rf_0_26 rfl rfl (by omega) ?_
        refine go_iload_n (pc' := 33) dX0_weigh_32 rfl rfl ?_
        obtain ⟨g7, h⟩ := gd h
        refine go_iald (pc' := 34) dX0_weigh_33 rfl g7 ?_
        refine go_bipush (pc' := 36) dX0_weigh_34 rfl (r32_c rfl) (by decide) ?_
        refine go_aload_n (pc' := 37) dX0_weigh_36 rfl rfl (Nat.le_of_ble_eq_true rfl) ?_
        obtain ⟨v8, k9, h⟩ := bd h
        have k9 := l_MV_parentAt (d + 2) n e σ2 (p + 1) y1 (σ2 (p + 6) y1) 12 _ k9
        refine go_call (kc := 27) (Mc := mt27) (v := some (pvI v8)) (w' := (true, n, e, σ2)) (pc' := 40) (st' := [pvI v8, pvI y1, pvR 12 12 (p + 13)]) [pvR 5 0 (p + 1), pvI y1, pvI (σ2 (p + 6) y1), pvI 12, pvR 9 0 92] [pvI y1, pvR 12 12 (p + 13)] (Or.inl rfl) dX0_weigh_37 rfl rm_0_92 mtE27 rfl rfl rfl (Nat.le_of_ble_eq_true rfl) (Or.inr ⟨_, _, (p + 1), rfl, Or.inl rfl⟩) k9 rfl ?_
        obtain ⟨g10, h⟩ := gd h
        refine go_iast (pc' := 41) dX0_weigh_40 rfl g10 ?_
        cases h
        exact k6J

set_option maxRecDepth 10000 in
theorem l_D_weigh_53 (d : Nat) (n : Nat) (e : Nat) (p : Nat) {out : Out} : ∀ (F : Nat) (y19 : Int) (σ20 : Hp) (j26 : Int × Hp), f_D_weigh_53 p F y19 σ20 = some j26 → Go none (Ev (d + 4)) mt26 79 [some (pvR 0 0 p), some (pvR 9 0 92), some (pvI j26.1)] [] (true, n, e, j26.2) out → Go none (Ev (d + 4)) mt26 53 [some (pvR 0 0 p), some (pvR 9 0 92), some (pvI y19)] [] (true, n, e, σ20) out := by
  intro F
  induction F with
  | zero =>
    intro _ _ _ h
    intro _
    rw [f_D_weigh_53] at h
    cases h
  | succ F ih =>
    intro y19 σ20 j26 h hx
    rw [f_D_weigh_53] at h
    refine go_iload_n (pc' := 54) dX0_weigh_53 rfl rfl ?_
    refine go_aload_n (pc' := 55) dX0_weigh_54 rfl rfl (Nat.le_of_ble_eq_true rfl) ?_
    refine go_getI (pc' := 58) dX0_weigh_55 rfl rf_0_96 rfl ?_
    refine go_icmp_ge (t := 79) (pc' := 61) dX0_weigh_58 rfl rfl (fun c25 => ?_) (fun c25 => ?_)
    · rw [if_pos (show (σ20 92 0) ≤ y19 from c25)] at h
      cases h
      exact hx
    · rw [if_neg (show ¬ ((σ20 92 0) ≤ y19) from c25)] at h
      refine go_aload_n (pc' := 62) dX0_weigh_61 rfl rfl (Nat.le_of_ble_eq_true rfl) ?_
      refine go_aload_n (pc' := 63) dX0_weigh_62 rfl rfl (Nat.le_of_ble_eq_true rfl) ?_
      refine go_getR (k' := 12) (L0 := 12) (P' := 93) (pc' := 66) dX0_weigh_63 rfl rf_0_99 rfl rfl (by omega) ?_
      refine go_iload_n (pc' := 67) dX0_weigh_66 rfl rfl ?_
      obtain ⟨g21, h⟩ := gd h
      refine go_iald (pc' := 68) dX0_weigh_67 rfl g21 ?_
      refine go_iload_n (pc' := 69) dX0_weigh_68 rfl rfl ?_
      refine go_aload_n (pc' := 70) dX0_weigh_69 rfl rfl (Nat.le_of_ble_eq_true rfl) ?_
      obtain ⟨v22, k23, h⟩ := bd h
      have k23 := l_D_weighRow (d + 0) n e σ20 p (σ20 93 y19) y19 _ k23
      refine go_call (kc := 32) (Mc := mt32) (v := none) (w' := (true, n, e, v22)) (pc' := 73) (st' := []) [pvR 0 0 p, pvI (σ20 93 y19), pvI y19, pvR 9 0 92] [] (Or.inl rfl) dX0_weigh_70 rfl rm_0_102 mtE32 rfl rfl rfl (Nat.le_of_ble_eq_true rfl) (Or.inr ⟨_, _, p, rfl, Or.inl rfl⟩) k23 rfl ?_
      obtain ⟨g24, h⟩ := gd h
      refine go_iinc (L' := [some (pvR 0 0 p), some (pvR 9 0 92), some (pvI (y19 + 1))]) (pc' := 76) dX0_weigh_73 rfl rfl g24 rfl ?_
      refine go_goto (t := 53) dX0_weigh_76 rfl ?_
      exact ih (y19 + 1) v22 _ h hx

set_option maxRecDepth 10000 in
theorem l_D_weigh (d : Nat) (n e : Nat) (σ : Hp) (p : Nat) (r : Hp) (h : f_D_weigh σ p = some r) : Ev (d + 5) 26 [pvR 0 0 p, pvR 9 0 92] (true, n, e, σ) (0, none, true, n, e, r) := by
  unfold f_D_weigh at h
  refine Ev.of mtE26 rfl rfl rfl rfl ?_
  show Go none (Ev (d + 4)) mt26 0 [some (pvR 0 0 p), some (pvR 9 0 92), none] [] (true, n, e, σ) (0, none, true, n, e, r)
  refine go_iconst (pc' := 1) dX0_weigh_0 rfl (r32_c rfl) ?_
  refine go_istore_n (L' := [some (pvR 0 0 p), some (pvR 9 0 92), some (pvI 1)]) (pc' := 2) dX0_weigh_1 rfl (Nat.le_of_ble_eq_true rfl) rfl ?_
  obtain ⟨j15, k16, h⟩ := bd h
  refine l_D_weigh_2 d n e p zFuel 1 σ _ k16 ?_
  refine go_aload_n (pc' := 48) dX0_weigh_47 rfl rfl (Nat.le_of_ble_eq_true rfl) ?_
  obtain ⟨v17, k18, h⟩ := bd h
  have k18 := l_D_settle (d + 1) n e j15.2 p _ k18
  refine go_call (kc := 28) (Mc := mt28) (v := none) (w' := (true, n, e, v17)) (pc' := 51) (st' := []) [pvR 0 0 p] [] (Or.inl rfl) dX0_weigh_48 rfl rm_0_76 mtE28 rfl rfl rfl (Nat.le_of_ble_eq_true rfl) (Or.inr ⟨_, _, p, rfl, Or.inl rfl⟩) k18 rfl ?_
  refine go_iconst (pc' := 52) dX0_weigh_51 rfl (r32_c rfl) ?_
  refine go_istore_n (L' := [some (pvR 0 0 p), some (pvR 9 0 92), some (pvI 0)]) (pc' := 53) dX0_weigh_52 rfl (Nat.le_of_ble_eq_true rfl) rfl ?_
  obtain ⟨j27, k28, h⟩ := bd h
  refine l_D_weigh_53 d n e p zFuel 0 v17 _ k28 ?_
  refine go_aload_n (pc' := 80) dX0_weigh_79 rfl rfl (Nat.le_of_ble_eq_true rfl) ?_
  refine go_bipush (pc' := 82) dX0_weigh_80 rfl (r32_c rfl) (by decide) ?_
  refine go_bipush (pc' := 84) dX0_weigh_82 rfl (r32_c rfl) (by decide) ?_
  refine go_aload_n (pc' := 85) dX0_weigh_84 rfl rfl (Nat.le_of_ble_eq_true rfl) ?_
  obtain ⟨v29, k30, h⟩ := bd h
  have k30 := l_D_weighRow (d + 0) n e j27.2 p 12 12 _ k30
  refine go_call (kc := 32) (Mc := mt32) (v := none) (w' := (true, n, e, v29)) (pc' := 88) (st' := []) [pvR 0 0 p, pvI 12, pvI 12, pvR 9 0 92] [] (Or.inl rfl) dX0_weigh_85 rfl rm_0_102 mtE32 rfl rfl rfl (Nat.le_of_ble_eq_true rfl) (Or.inr ⟨_, _, p, rfl, Or.inl rfl⟩) k30 rfl ?_
  cases h
  exact go_vret dX0_weigh_88 rfl rfl

set_option maxRecDepth 10000 in
theorem l_S_weigh (d : Nat) (n e : Nat) (σ : Hp) (r : Hp) (h : f_S_weigh σ = some r) : Ev (d + 6) 25 [pvR 7 0 1] (true, n, e, σ) (0, none, true, n, e, r) := by
  unfold f_S_weigh at h
  refine Ev.of mtE25 rfl rfl rfl rfl ?_
  show Go none (Ev (d + 5)) mt25 0 [some (pvR 7 0 1)] [] (true, n, e, σ) (0, none, true, n, e, r)
  refine go_aload_n (pc' := 1) dX7_weigh_0 rfl rfl (Nat.le_of_ble_eq_true rfl) ?_
  refine go_getR (k' := 0) (L0 := 0) (P' := 2) (pc' := 4) dX7_weigh_1 rfl rf_7_12 rfl rfl (by omega) ?_
  refine go_aload_n (pc' := 5) dX7_weigh_4 rfl rfl (Nat.le_of_ble_eq_true rfl) ?_
  refine go_getR (k' := 9) (L0 := 0) (P' := 92) (pc' := 8) dX7_weigh_5 rfl rf_7_27 rfl rfl (by omega) ?_
  obtain ⟨v1, k2, h⟩ := bd h
  have k2 := l_D_weigh (d + 0) n e σ 2 _ k2
  refine go_call (kc := 26) (Mc := mt26) (v := none) (w' := (true, n, e, v1)) (pc' := 11) (st' := []) [pvR 0 0 2, pvR 9 0 92] [] (Or.inl rfl) dX7_weigh_8 rfl rm_7_41 mtE26 rfl rfl rfl (Nat.le_of_ble_eq_true rfl) (Or.inr ⟨_, _, 2, rfl, Or.inl rfl⟩) k2 rfl ?_
  refine go_aload_n (pc' := 12) dX7_weigh_11 rfl rfl (Nat.le_of_ble_eq_true rfl) ?_
  refine go_getR (k' := 0) (L0 := 0) (P' := 32) (pc' := 15) dX7_weigh_12 rfl rf_7_18 rfl rfl (by omega) ?_
  refine go_aload_n (pc' := 16) dX7_weigh_15 rfl rfl (Nat.le_of_ble_eq_true rfl) ?_
  refine go_getR (k' := 9) (L0 := 0) (P' := 92) (pc' := 19) dX7_weigh_16 rfl rf_7_27 rfl rfl (by omega) ?_
  obtain ⟨v3, k4, h⟩ := bd h
  have k4 := l_D_weigh (d + 0) n e v1 32 _ k4
  refine go_call (kc := 26) (Mc := mt26) (v := none) (w' := (true, n, e, v3)) (pc' := 22) (st' := []) [pvR 0 0 32, pvR 9 0 92] [] (Or.inl rfl) dX7_weigh_19 rfl rm_7_41 mtE26 rfl rfl rfl (Nat.le_of_ble_eq_true rfl) (Or.inr ⟨_, _, 32, rfl, Or.inl rfl⟩) k4 rfl ?_
  refine go_aload_n (pc' := 23) dX7_weigh_22 rfl rfl (Nat.le_of_ble_eq_true rfl) ?_
  refine go_getR (k' := 0) (L0 := 0) (P' := 62) (pc' := 26) dX7_weigh_23 rfl rf_7_21 rfl rfl (by omega) ?_
  refine go_aload_n (pc' := 27) dX7_weigh_26 rfl rfl (Nat.le_of_ble_eq_true rfl) ?_
  refine go_getR (k' := 9) (L0 := 0) (P' := 92) (pc' := 30) dX7_weigh_27 rfl rf_7_27 rfl rfl (by omega) ?_
  obtain ⟨v5, k6, h⟩ := bd h
  have k6 := l_D_weigh (d + 0) n e v3 62 _ k6
  refine go_call (kc := 26) (Mc := mt26) (v := none) (w' := (true, n, e, v5)) (pc' := 33) (st' := []) [pvR 0 0 62, pvR 9 0 92] [] (Or.inl rfl) dX7_weigh_30 rfl rm_7_41 mtE26 rfl rfl rfl (Nat.le_of_ble_eq_true rfl) (Or.inr ⟨_, _, 62, rfl, Or.inl rfl⟩) k6 rfl ?_
  cases h
  exact go_vret dX7_weigh_33 rfl rfl

set_option maxRecDepth 10000 in
theorem l_K_dropAll (d : Nat) (n e : Nat) (σ : Hp) (r : Hp) (h : f_K_dropAll σ = some r) : Ev (d + 1) 35 [pvR 3 0 108] (true, n, e, σ) (0, none, true, n, e, r) := by
  unfold f_K_dropAll at h
  refine Ev.of mtE35 rfl rfl rfl rfl ?_
  show Go none (Ev (d + 0)) mt35 0 [some (pvR 3 0 108)] [] (true, n, e, σ) (0, none, true, n, e, r)
  refine go_aload_n (pc' := 1) dX3_dropAll_0 rfl rfl (Nat.le_of_ble_eq_true rfl) ?_
  refine go_iconst (pc' := 2) dX3_dropAll_1 rfl (r32_c rfl) ?_
  refine go_putI (pc' := 5) dX3_dropAll_2 rfl rf_3_22 rfl ?_
  cases h
  exact go_vret dX3_dropAll_5 rfl rfl

set_option maxRecDepth 10000 in
theorem l_C_member (d : Nat) (n e : Nat) (σ : Hp) (x1 : Int) (x2 : Int) (x3 : Int) (r : Nat × Int × Hp) (h : f_C_member σ x1 x2 x3 = some r) : Ev (d + 7) 12 [pvR 10 0 0, pvI x1, pvI x2, pvI x3] (true, n, e, σ) (r.1, if r.1 = 0 then some (pvI r.2.1) else none, true, n, e + if r.1 = 0 then 0 else 1, r.2.2) := by
  unfold f_C_member at h
  refine Ev.of mtE12 rfl rfl rfl rfl ?_
  show Go none (Ev (d + 6)) mt12 0 [some (pvR 10 0 0), some (pvI x1), some (pvI x2), some (pvI x3), none, none] [] (true, n, e, σ) (r.1, if r.1 = 0 then some (pvI r.2.1) else none, true, n, e + if r.1 = 0 then 0 else 1, r.2.2)
  refine go_aload_n (pc' := 1) dX10_member_0 rfl rfl (Nat.le_of_ble_eq_true rfl) ?_
  refine go_iload_n (pc' := 2) dX10_member_1 rfl rfl ?_
  obtain ⟨v1, k2, h⟩ := bd h
  by_cases c3 : v1.1 = 0
  · rw [if_pos c3] at h
    have k2 := l_C_existing (d + 4) n e σ x1 _ k2
    rw [c3] at k2
    refine go_call (kc := 13) (Mc := mt13) (v := some (pvR 0 0 v1.2)) (w' := (true, n, e, σ)) (pc' := 5) (st' := [pvR 0 0 v1.2]) [pvR 10 0 0, pvI x1] [] (Or.inl rfl) dX10_member_2 rfl rm_10_62 mtE13 rfl rfl rfl (Nat.le_of_ble_eq_true rfl) (Or.inr ⟨_, _, 0, rfl, Or.inl rfl⟩) k2 rfl ?_
    refine go_astore (L' := [some (pvR 10 0 0), some (pvI x1), some (pvI x2), some (pvI x3), some (pvR 0 0 v1.2), none]) (pc' := 7) dX10_member_5 rfl (Nat.le_of_ble_eq_true rfl) (Nat.le_of_ble_eq_true rfl) rfl ?_
    refine go_aload (pc' := 9) dX10_member_7 rfl rfl (Nat.le_of_ble_eq_true rfl) ?_
    refine go_iload_n (pc' := 10) dX10_member_9 rfl rfl ?_
    obtain ⟨v4, k5, h⟩ := bd h
    by_cases c6 : v4 = 0
    · rw [if_pos c6] at h
      have k5 := l_C_needMember (d + 4) n e σ v1.2 x2 _ k5
      rw [c6] at k5
      refine go_call (kc := 15) (Mc := mt15) (v := none) (w' := (true, n, e, σ)) (pc' := 13) (st' := []) [pvR 0 0 v1.2, pvI x2] [] (Or.inr (Or.inl rfl)) dX10_member_10 rfl rm_10_66 mtE15 rfl rfl rfl (Nat.le_of_ble_eq_true rfl) (Or.inl (by decide)) k5 rfl ?_
      refine go_iload_n (pc' := 14) dX10_member_13 rfl rfl ?_
      refine go_iconst (pc' := 15) dX10_member_14 rfl (r32_c rfl) ?_
      refine go_iconst (pc' := 16) dX10_member_15 rfl (r32_c rfl) ?_
      obtain ⟨v7, k8, h⟩ := bd h
      by_cases c9 : v7 = 0
      · rw [if_pos c9] at h
        have k8 := l_C_needRange (d + 5) n e σ x3 (-1) 1 _ k8
        rw [c9] at k8
        refine go_call (kc := 17) (Mc := mt17) (v := none) (w' := (true, n, e, σ)) (pc' := 19) (st' := []) [pvI x3, pvI (-1), pvI 1] [] (Or.inr (Or.inl rfl)) dX10_member_16 rfl rm_10_70 mtE17 rfl rfl rfl (Nat.le_of_ble_eq_true rfl) (Or.inl (by decide)) k8 rfl ?_
        refine go_aload (pc' := 21) dX10_member_19 rfl rfl (Nat.le_of_ble_eq_true rfl) ?_
        refine go_iload_n (pc' := 22) dX10_member_21 rfl rfl ?_
        obtain ⟨v10, k11, h⟩ := bd h
        have k11 := l_D_isPlain (d + 4) n e σ v1.2 x2 _ k11
        refine go_call (kc := 18) (Mc := mt18) (v := some (pvI v10)) (w' := (true, n, e, σ)) (pc' := 25) (st' := [pvI v10]) [pvR 0 0 v1.2, pvI x2] [] (Or.inl rfl) dX10_member_22 rfl rm_10_74 mtE18 rfl rfl rfl (Nat.le_of_ble_eq_true rfl) (Or.inr ⟨_, _, v1.2, rfl, Or.inl rfl⟩) k11 rfl ?_
        obtain ⟨j12, k13, h⟩ := bd h
        have k13J : Go none (Ev (d + 6)) mt12 43 [some (pvR 10 0 0), some (pvI x1), some (pvI x2), some (pvI x3), some (pvR 0 0 v1.2), none] [pvI j12] (true, n, e, σ) (r.1, if r.1 = 0 then some (pvI r.2.1) else none, true, n, e + if r.1 = 0 then 0 else 1, r.2.2) := by
          obtain ⟨v15, k16, h⟩ := bd h
          by_cases c17 : v15 = 0
          · rw [if_pos c17] at h
            have k16 := l_C_need (d + 5) n e σ j12 _ k16
            rw [c17] at k16
            refine go_call (kc := 19) (Mc := mt19) (v := none) (w' := (true, n, e, σ)) (pc' := 46) (st' := []) [pvI j12] [] (Or.inr (Or.inl rfl)) dX10_member_43 rfl rm_10_84 mtE19 rfl rfl rfl (Nat.le_of_ble_eq_true rfl) (Or.inl (by decide)) k16 rfl ?_
            refine go_aload (pc' := 48) dX10_member_46 rfl rfl (Nat.le_of_ble_eq_true rfl) ?_
            refine go_iload_n (pc' := 49) dX10_member_48 rfl rfl ?_
            refine go_iload_n (pc' := 50) dX10_member_49 rfl rfl ?_
            obtain ⟨v18, k19, h⟩ := bd h
            have k19 := l_D_addPlain (d + 4) n e σ v1.2 x2 x3 _ k19
            refine go_call (kc := 20) (Mc := mt20) (v := some (pvI v18.1)) (w' := (true, n, e, v18.2)) (pc' := 53) (st' := [pvI v18.1]) [pvR 0 0 v1.2, pvI x2, pvI x3] [] (Or.inl rfl) dX10_member_50 rfl rm_10_88 mtE20 rfl rfl rfl (Nat.le_of_ble_eq_true rfl) (Or.inr ⟨_, _, v1.2, rfl, Or.inl rfl⟩) k19 rfl ?_
            refine go_istore (L' := [some (pvR 10 0 0), some (pvI x1), some (pvI x2), some (pvI x3), some (pvR 0 0 v1.2), some (pvI v18.1)]) (pc' := 55) dX10_member_53 rfl (Nat.le_of_ble_eq_true rfl) rfl ?_
            refine go_iload_n (pc' := 56) dX10_member_55 rfl rfl ?_
            obtain ⟨j20, k21, h⟩ := bd h
            have k21J : Go none (Ev (d + 6)) mt12 74 [some (pvR 10 0 0), some (pvI x1), some (pvI x2), some (pvI x3), some (pvR 0 0 v1.2), some (pvI v18.1)] [] (true, n, e, j20) (r.1, if r.1 = 0 then some (pvI r.2.1) else none, true, n, e + if r.1 = 0 then 0 else 1, r.2.2) := by
              refine go_aload_n (pc' := 75) dX10_member_74 rfl rfl (Nat.le_of_ble_eq_true rfl) ?_
              refine go_getR (k' := 7) (L0 := 0) (P' := 1) (pc' := 78) dX10_member_75 rfl rf_10_12 rfl rfl (by omega) ?_
              obtain ⟨v24, k25, h⟩ := bd h
              have k25 := l_S_weigh (d + 0) n e j20 _ k25
              refine go_call (kc := 25) (Mc := mt25) (v := none) (w' := (true, n, e, v24)) (pc' := 81) (st' := []) [pvR 7 0 1] [] (Or.inl rfl) dX10_member_78 rfl rm_10_102 mtE25 rfl rfl rfl (Nat.le_of_ble_eq_true rfl) (Or.inr ⟨_, _, 1, rfl, Or.inl rfl⟩) k25 rfl ?_
              refine go_aload_n (pc' := 82) dX10_member_81 rfl rfl (Nat.le_of_ble_eq_true rfl) ?_
              refine go_getR (k' := 3) (L0 := 0) (P' := 108) (pc' := 85) dX10_member_82 rfl rf_10_35 rfl rfl (by omega) ?_
              obtain ⟨v26, k27, h⟩ := bd h
              have k27 := l_K_dropAll (d + 5) n e v24 _ k27
              refine go_call (kc := 35) (Mc := mt35) (v := none) (w' := (true, n, e, v26)) (pc' := 88) (st' := []) [pvR 3 0 108] [] (Or.inl rfl) dX10_member_85 rfl rm_10_105 mtE35 rfl rfl rfl (Nat.le_of_ble_eq_true rfl) (Or.inr ⟨_, _, 108, rfl, Or.inl rfl⟩) k27 rfl ?_
              refine go_iload (pc' := 90) dX10_member_88 rfl rfl ?_
              cases h
              exact go_iret dX10_member_90 rfl rfl
            clear h
            have h := k21
            refine go_if_ne (t := 74) (pc' := 59) dX10_member_56 rfl rfl (fun c28 => ?_) (fun c28 => ?_)
            · rw [if_pos (show x1 ≠ 0 from c28)] at h
              cases h
              exact k21J
            · rw [if_neg (show ¬ (x1 ≠ 0) from c28)] at h
              refine go_aload_n (pc' := 60) dX10_member_59 rfl rfl (Nat.le_of_ble_eq_true rfl) ?_
              refine go_getR (k' := 7) (L0 := 0) (P' := 1) (pc' := 63) dX10_member_60 rfl rf_10_12 rfl rfl (by omega) ?_
              refine go_getR (k' := 9) (L0 := 0) (P' := 92) (pc' := 66) dX10_member_63 rfl rf_10_92 rfl rfl (by omega) ?_
              refine go_iload (pc' := 68) dX10_member_66 rfl rfl ?_
              refine go_iload_n (pc' := 69) dX10_member_68 rfl rfl ?_
              refine go_aload (pc' := 71) dX10_member_69 rfl rfl (Nat.le_of_ble_eq_true rfl) ?_
              obtain ⟨v22, k23, h⟩ := bd h
              have k23 := l_TO_insert (d + 3) n e v18.2 v18.1 x2 v1.2 _ k23
              refine go_call (kc := 22) (Mc := mt22) (v := none) (w' := (true, n, e, v22)) (pc' := 74) (st' := []) [pvR 9 0 92, pvI v18.1, pvI x2, pvR 0 0 v1.2] [] (Or.inl rfl) dX10_member_71 rfl rm_10_96 mtE22 rfl rfl rfl (Nat.le_of_ble_eq_true rfl) (Or.inr ⟨_, _, 92, rfl, Or.inl rfl⟩) k23 rfl ?_
              cases h
              exact k21J
          · rw [if_neg c17] at h
            obtain ⟨g29, h⟩ := gd h
            cases h
            have k16 := l_C_need (d + 5) n e σ j12 _ k16
            simp only [if_neg c17] at k16 ⊢
            exact go_callX (kc := 19) (Mc := mt19) [pvI j12] [] (Or.inr rfl) dX10_member_43 rm_10_84 mtE19 rfl rfl rfl (Nat.le_of_ble_eq_true rfl) (Or.inl (by decide)) rfl c17 g29 k16 rfl
        clear h
        have h := k13
        refine go_if_eq (t := 42) (pc' := 28) dX10_member_25 rfl rfl (fun c30 => ?_) (fun c30 => ?_)
        · rw [if_pos (show v10 = 0 from c30)] at h
          refine go_iconst (pc' := 43) dX10_member_42 rfl (r32_c rfl) ?_
          cases h
          exact k13J
        · rw [if_neg (show ¬ (v10 = 0) from c30)] at h
          refine go_aload (pc' := 30) dX10_member_28 rfl rfl (Nat.le_of_ble_eq_true rfl) ?_
          refine go_getI (pc' := 33) dX10_member_30 rfl rf_10_80 rfl ?_
          refine go_bipush (pc' := 35) dX10_member_33 rfl (r32_c rfl) (by decide) ?_
          refine go_icmp_ge (t := 42) (pc' := 38) dX10_member_35 rfl rfl (fun c14 => ?_) (fun c14 => ?_)
          · rw [if_pos (show 12 ≤ (σ v1.2 0) from c14)] at h
            refine go_iconst (pc' := 43) dX10_member_42 rfl (r32_c rfl) ?_
            cases h
            exact k13J
          · rw [if_neg (show ¬ (12 ≤ (σ v1.2 0)) from c14)] at h
            refine go_iconst (pc' := 39) dX10_member_38 rfl (r32_c rfl) ?_
            refine go_goto (t := 43) dX10_member_39 rfl ?_
            cases h
            exact k13J
      · rw [if_neg c9] at h
        obtain ⟨g31, h⟩ := gd h
        cases h
        have k8 := l_C_needRange (d + 5) n e σ x3 (-1) 1 _ k8
        simp only [if_neg c9] at k8 ⊢
        exact go_callX (kc := 17) (Mc := mt17) [pvI x3, pvI (-1), pvI 1] [] (Or.inr rfl) dX10_member_16 rm_10_70 mtE17 rfl rfl rfl (Nat.le_of_ble_eq_true rfl) (Or.inl (by decide)) rfl c9 g31 k8 rfl
    · rw [if_neg c6] at h
      obtain ⟨g32, h⟩ := gd h
      cases h
      have k5 := l_C_needMember (d + 4) n e σ v1.2 x2 _ k5
      simp only [if_neg c6] at k5 ⊢
      exact go_callX (kc := 15) (Mc := mt15) [pvR 0 0 v1.2, pvI x2] [] (Or.inr rfl) dX10_member_10 rm_10_66 mtE15 rfl rfl rfl (Nat.le_of_ble_eq_true rfl) (Or.inl (by decide)) rfl c6 g32 k5 rfl
  · rw [if_neg c3] at h
    obtain ⟨g33, h⟩ := gd h
    cases h
    have k2 := l_C_existing (d + 4) n e σ x1 _ k2
    simp only [if_neg c3] at k2 ⊢
    exact go_callX (kc := 13) (Mc := mt13) [pvR 10 0 0, pvI x1] [] (Or.inl rfl) dX10_member_2 rm_10_62 mtE13 rfl rfl rfl (Nat.le_of_ble_eq_true rfl) (Or.inr ⟨_, _, 0, rfl, Or.inl rfl⟩) rfl c3 g33 k2 rfl

set_option maxRecDepth 10000 in
theorem l_MS_has (d : Nat) (n e : Nat) (σ : Hp) (x1 : Int) (r : Int) (h : f_MS_has σ x1 = some r) : Ev (d + 1) 38 [pvR 4 0 95, pvI x1] (true, n, e, σ) (0, some (pvI r), true, n, e, σ) := by
  unfold f_MS_has at h
  refine Ev.of mtE38 rfl rfl rfl rfl ?_
  show Go none (Ev (d + 0)) mt38 0 [some (pvR 4 0 95), some (pvI x1)] [] (true, n, e, σ) (0, some (pvI r), true, n, e, σ)
  refine go_iload_n (pc' := 1) dX4_has_0 rfl rfl ?_
  obtain ⟨j1, k2, h⟩ := bd h
  have k2J : Go none (Ev (d + 0)) mt38 22 [some (pvR 4 0 95), some (pvI x1)] [pvI j1] (true, n, e, σ) (0, some (pvI r), true, n, e, σ) := by
    obtain ⟨g5, h⟩ := gd h
    cases h
    exact go_zret dX4_has_22 rfl g5 rfl
  clear h
  have h := k2
  refine go_if_lt (t := 21) (pc' := 4) dX4_has_1 rfl rfl (fun c6 => ?_) (fun c6 => ?_)
  · rw [if_pos (show x1 < 0 from c6)] at h
    refine go_iconst (pc' := 22) dX4_has_21 rfl (r32_c rfl) ?_
    cases h
    exact k2J
  · rw [if_neg (show ¬ (x1 < 0) from c6)] at h
    refine go_iload_n (pc' := 5) dX4_has_4 rfl rfl ?_
    refine go_aload_n (pc' := 6) dX4_has_5 rfl rfl (Nat.le_of_ble_eq_true rfl) ?_
    refine go_getI (pc' := 9) dX4_has_6 rfl rf_4_27 rfl ?_
    refine go_icmp_ge (t := 21) (pc' := 12) dX4_has_9 rfl rfl (fun c4 => ?_) (fun c4 => ?_)
    · rw [if_pos (show (σ 95 0) ≤ x1 from c4)] at h
      refine go_iconst (pc' := 22) dX4_has_21 rfl (r32_c rfl) ?_
      cases h
      exact k2J
    · rw [if_neg (show ¬ ((σ 95 0) ≤ x1) from c4)] at h
      refine go_iload_n (pc' := 13) dX4_has_12 rfl rfl ?_
      refine go_iconst (pc' := 14) dX4_has_13 rfl (r32_c rfl) ?_
      refine go_icmp_ge (t := 21) (pc' := 17) dX4_has_14 rfl rfl (fun c3 => ?_) (fun c3 => ?_)
      · rw [if_pos (show 4 ≤ x1 from c3)] at h
        refine go_iconst (pc' := 22) dX4_has_21 rfl (r32_c rfl) ?_
        cases h
        exact k2J
      · rw [if_neg (show ¬ (4 ≤ x1) from c3)] at h
        refine go_iconst (pc' := 18) dX4_has_17 rfl (r32_c rfl) ?_
        refine go_goto (t := 22) dX4_has_18 rfl ?_
        cases h
        exact k2J

set_option maxRecDepth 10000 in
theorem l_C_needMeasure (d : Nat) (n e : Nat) (σ : Hp) (x1 : Int) (r : Nat) (h : f_C_needMeasure σ x1 = some r) : Ev (d + 2) 37 [pvR 10 0 0, pvI x1] (true, n, e, σ) (r, none, true, n, e + if r = 0 then 0 else 1, σ) := by
  unfold f_C_needMeasure at h
  refine Ev.of mtE37 rfl rfl rfl rfl ?_
  show Go none (Ev (d + 1)) mt37 0 [some (pvR 10 0 0), some (pvI x1)] [] (true, n, e, σ) (r, none, true, n, e + if r = 0 then 0 else 1, σ)
  refine go_aload_n (pc' := 1) dX10_needMeasure_0 rfl rfl (Nat.le_of_ble_eq_true rfl) ?_
  refine go_getR (k' := 4) (L0 := 0) (P' := 95) (pc' := 4) dX10_needMeasure_1 rfl rf_10_21 rfl rfl (by omega) ?_
  refine go_iload_n (pc' := 5) dX10_needMeasure_4 rfl rfl ?_
  obtain ⟨v1, k2, h⟩ := bd h
  have k2 := l_MS_has (d + 0) n e σ x1 _ k2
  refine go_call (kc := 38) (Mc := mt38) (v := some (pvI v1)) (w' := (true, n, e, σ)) (pc' := 8) (st' := [pvI v1]) [pvR 4 0 95, pvI x1] [] (Or.inl rfl) dX10_needMeasure_5 rfl rm_10_330 mtE38 rfl rfl rfl (Nat.le_of_ble_eq_true rfl) (Or.inr ⟨_, _, 95, rfl, Or.inl rfl⟩) k2 rfl ?_
  refine go_if_ne (t := 22) (pc' := 11) dX10_needMeasure_8 rfl rfl (fun c3 => ?_) (fun c3 => ?_)
  · rw [if_pos (show v1 ≠ 0 from c3)] at h
    cases h
    exact go_vret dX10_needMeasure_22 rfl rfl
  · rw [if_neg (show ¬ (v1 ≠ 0) from c3)] at h
    cases h
    exact go_throw (x := 1) (ic := 112) (ln := 3) (tx := "no such measure") dX10_needMeasure_11 rt_10_108 rfl rfl (Nat.le_of_ble_eq_true rfl) dX10_needMeasure_14 (Or.inr ⟨dX10_needMeasure_15, rfl⟩) dX10_needMeasure_18 dX10_needMeasure_21 (Or.inl ⟨rfl, rfl⟩) (by decide +kernel) rfl

set_option maxRecDepth 10000 in
theorem l_MS_add (d : Nat) (n e : Nat) (σ : Hp) (x1 : Int) (x2 : Int) (x3 : Int) (r : Int × Hp) (h : f_MS_add σ x1 x2 x3 = some r) : Ev (d + 2) 39 [pvR 4 0 95, pvI x1, pvI x2, pvI x3] (true, n, e, σ) (0, some (pvI r.1), true, n, e, r.2) := by
  unfold f_MS_add at h
  refine Ev.of mtE39 rfl rfl rfl rfl ?_
  show Go none (Ev (d + 1)) mt39 0 [some (pvR 4 0 95), some (pvI x1), some (pvI x2), some (pvI x3)] [] (true, n, e, σ) (0, some (pvI r.1), true, n, e, r.2)
  refine go_aload_n (pc' := 1) dX4_add_0 rfl rfl (Nat.le_of_ble_eq_true rfl) ?_
  refine go_getI (pc' := 4) dX4_add_1 rfl rf_4_27 rfl ?_
  refine go_iconst (pc' := 5) dX4_add_4 rfl (r32_c rfl) ?_
  refine go_icmp_lt (t := 10) (pc' := 8) dX4_add_5 rfl rfl (fun c20 => ?_) (fun c20 => ?_)
  · rw [if_pos (show (σ 95 0) < 4 from c20)] at h
    refine go_aload_n (pc' := 11) dX4_add_10 rfl rfl (Nat.le_of_ble_eq_true rfl) ?_
    refine go_getR (k' := 12) (L0 := 4) (P' := 96) (pc' := 14) dX4_add_11 rfl rf_4_9 rfl rfl (by omega) ?_
    refine go_aload_n (pc' := 15) dX4_add_14 rfl rfl (Nat.le_of_ble_eq_true rfl) ?_
    refine go_getI (pc' := 18) dX4_add_15 rfl rf_4_27 rfl ?_
    refine go_iload_n (pc' := 19) dX4_add_18 rfl rfl ?_
    obtain ⟨g1, h⟩ := gd h
    refine go_iast (pc' := 20) dX4_add_19 rfl g1 ?_
    refine go_aload_n (pc' := 21) dX4_add_20 rfl rfl (Nat.le_of_ble_eq_true rfl) ?_
    refine go_getR (k' := 12) (L0 := 4) (P' := 99) (pc' := 24) dX4_add_21 rfl rf_4_21 rfl rfl (by omega) ?_
    refine go_aload_n (pc' := 25) dX4_add_24 rfl rfl (Nat.le_of_ble_eq_true rfl) ?_
    refine go_getI (pc' := 28) dX4_add_25 rfl rf_4_27 rfl ?_
    refine go_iconst (pc' := 29) dX4_add_28 rfl (r32_c rfl) ?_
    refine go_aload_n (pc' := 30) dX4_add_29 rfl rfl (Nat.le_of_ble_eq_true rfl) ?_
    refine go_getI (pc' := 33) dX4_add_30 rfl rf_4_27 rfl ?_
    refine go_ishl (pc' := 34) dX4_add_33 rfl ?_
    obtain ⟨g2, h⟩ := gd h
    refine go_iast (pc' := 35) dX4_add_34 rfl g2 ?_
    refine go_iload_n (pc' := 36) dX4_add_35 rfl rfl ?_
    refine go_iconst (pc' := 37) dX4_add_36 rfl (r32_c rfl) ?_
    obtain ⟨j3, k4, h⟩ := bd h
    have k4J : Go none (Ev (d + 1)) mt39 101 [some (pvR 4 0 95), some (pvI x1), some (pvI x2), some (pvI x3)] [] (true, n, e, j3) (0, some (pvI r.1), true, n, e, r.2) := by
      refine go_aload_n (pc' := 102) dX4_add_101 rfl rfl (Nat.le_of_ble_eq_true rfl) ?_
      refine go_dup (pc' := 103) dX4_add_102 rfl (Nat.ne_of_beq_eq_false rfl) ?_
      refine go_getI (pc' := 106) dX4_add_103 rfl rf_4_27 rfl ?_
      refine go_iconst (pc' := 107) dX4_add_106 rfl (r32_c rfl) ?_
      obtain ⟨g17, h⟩ := gd h
      refine go_iadd (pc' := 108) dX4_add_107 rfl g17 ?_
      refine go_putI (pc' := 111) dX4_add_108 rfl rf_4_27 rfl ?_
      refine go_aload_n (pc' := 112) dX4_add_111 rfl rfl (Nat.le_of_ble_eq_true rfl) ?_
      refine go_getI (pc' := 115) dX4_add_112 rfl rf_4_27 rfl ?_
      refine go_iconst (pc' := 116) dX4_add_115 rfl (r32_c rfl) ?_
      obtain ⟨g18, h⟩ := gd h
      refine go_isub (pc' := 117) dX4_add_116 rfl g18 ?_
      cases h
      exact go_iret dX4_add_117 rfl rfl
    clear h
    have h := k4
    refine go_icmp_ne (t := 101) (pc' := 40) dX4_add_37 rfl rfl (fun c19 => ?_) (fun c19 => ?_)
    · rw [if_pos (show x1 ≠ 3 from c19)] at h
      cases h
      exact k4J
    · rw [if_neg (show ¬ (x1 ≠ 3) from c19)] at h
      refine go_aload_n (pc' := 41) dX4_add_40 rfl rfl (Nat.le_of_ble_eq_true rfl) ?_
      refine go_iload_n (pc' := 42) dX4_add_41 rfl rfl ?_
      obtain ⟨v5, k6, h⟩ := bd h
      have k6 := l_MS_has (d + 0) n e (hset (hset σ 96 (σ 95 0) x1) 99 ((hset σ 96 (σ 95 0) x1) 95 0) (ishl 1 ((hset σ 96 (σ 95 0) x1) 95 0))) x2 _ k6
      refine go_call (kc := 38) (Mc := mt38) (v := some (pvI v5)) (w' := (true, n, e, (hset (hset σ 96 (σ 95 0) x1) 99 ((hset σ 96 (σ 95 0) x1) 95 0) (ishl 1 ((hset σ 96 (σ 95 0) x1) 95 0))))) (pc' := 45) (st' := [pvI v5]) [pvR 4 0 95, pvI x2] [] (Or.inl rfl) dX4_add_42 rfl rm_4_31 mtE38 rfl rfl rfl (Nat.le_of_ble_eq_true rfl) (Or.inr ⟨_, _, 95, rfl, Or.inl rfl⟩) k6 rfl ?_
      refine go_if_eq (t := 101) (pc' := 48) dX4_add_45 rfl rfl (fun c16 => ?_) (fun c16 => ?_)
      · rw [if_pos (show v5 = 0 from c16)] at h
        cases h
        exact k4J
      · rw [if_neg (show ¬ (v5 = 0) from c16)] at h
        refine go_aload_n (pc' := 49) dX4_add_48 rfl rfl (Nat.le_of_ble_eq_true rfl) ?_
        refine go_iload_n (pc' := 50) dX4_add_49 rfl rfl ?_
        obtain ⟨v7, k8, h⟩ := bd h
        have k8 := l_MS_has (d + 0) n e (hset (hset σ 96 (σ 95 0) x1) 99 ((hset σ 96 (σ 95 0) x1) 95 0) (ishl 1 ((hset σ 96 (σ 95 0) x1) 95 0))) x3 _ k8
        refine go_call (kc := 38) (Mc := mt38) (v := some (pvI v7)) (w' := (true, n, e, (hset (hset σ 96 (σ 95 0) x1) 99 ((hset σ 96 (σ 95 0) x1) 95 0) (ishl 1 ((hset σ 96 (σ 95 0) x1) 95 0))))) (pc' := 53) (st' := [pvI v7]) [pvR 4 0 95, pvI x3] [] (Or.inl rfl) dX4_add_50 rfl rm_4_31 mtE38 rfl rfl rfl (Nat.le_of_ble_eq_true rfl) (Or.inr ⟨_, _, 95, rfl, Or.inl rfl⟩) k8 rfl ?_
        refine go_if_eq (t := 101) (pc' := 56) dX4_add_53 rfl rfl (fun c15 => ?_) (fun c15 => ?_)
        · rw [if_pos (show v7 = 0 from c15)] at h
          cases h
          exact k4J
        · rw [if_neg (show ¬ (v7 = 0) from c15)] at h
          refine go_aload_n (pc' := 57) dX4_add_56 rfl rfl (Nat.le_of_ble_eq_true rfl) ?_
          refine go_getR (k' := 12) (L0 := 4) (P' := 97) (pc' := 60) dX4_add_57 rfl rf_4_15 rfl rfl (by omega) ?_
          refine go_aload_n (pc' := 61) dX4_add_60 rfl rfl (Nat.le_of_ble_eq_true rfl) ?_
          refine go_getI (pc' := 64) dX4_add_61 rfl rf_4_27 rfl ?_
          refine go_iload_n (pc' := 65) dX4_add_64 rfl rfl ?_
          obtain ⟨g9, h⟩ := gd h
          refine go_iast (pc' := 66) dX4_add_65 rfl g9 ?_
          refine go_aload_n (pc' := 67) dX4_add_66 rfl rfl (Nat.le_of_ble_eq_true rfl) ?_
          refine go_getR (k' := 12) (L0 := 4) (P' := 98) (pc' := 70) dX4_add_67 rfl rf_4_18 rfl rfl (by omega) ?_
          refine go_aload_n (pc' := 71) dX4_add_70 rfl rfl (Nat.le_of_ble_eq_true rfl) ?_
          refine go_getI (pc' := 74) dX4_add_71 rfl rf_4_27 rfl ?_
          refine go_iload_n (pc' := 75) dX4_add_74 rfl rfl ?_
          obtain ⟨g10, h⟩ := gd h
          refine go_iast (pc' := 76) dX4_add_75 rfl g10 ?_
          refine go_aload_n (pc' := 77) dX4_add_76 rfl rfl (Nat.le_of_ble_eq_true rfl) ?_
          refine go_getR (k' := 12) (L0 := 4) (P' := 99) (pc' := 80) dX4_add_77 rfl rf_4_21 rfl rfl (by omega) ?_
          refine go_aload_n (pc' := 81) dX4_add_80 rfl rfl (Nat.le_of_ble_eq_true rfl) ?_
          refine go_getI (pc' := 84) dX4_add_81 rfl rf_4_27 rfl ?_
          refine go_dup2 (pc' := 85) dX4_add_84 rfl (Nat.ne_of_beq_eq_false rfl) (Nat.ne_of_beq_eq_false rfl) ?_
          obtain ⟨g11, h⟩ := gd h
          refine go_iald (pc' := 86) dX4_add_85 rfl g11 ?_
          refine go_aload_n (pc' := 87) dX4_add_86 rfl rfl (Nat.le_of_ble_eq_true rfl) ?_
          refine go_getR (k' := 12) (L0 := 4) (P' := 99) (pc' := 90) dX4_add_87 rfl rf_4_21 rfl rfl (by omega) ?_
          refine go_iload_n (pc' := 91) dX4_add_90 rfl rfl ?_
          obtain ⟨g12, h⟩ := gd h
          refine go_iald (pc' := 92) dX4_add_91 rfl g12 ?_
          refine go_aload_n (pc' := 93) dX4_add_92 rfl rfl (Nat.le_of_ble_eq_true rfl) ?_
          refine go_getR (k' := 12) (L0 := 4) (P' := 99) (pc' := 96) dX4_add_93 rfl rf_4_21 rfl rfl (by omega) ?_
          refine go_iload_n (pc' := 97) dX4_add_96 rfl rfl ?_
          obtain ⟨g13, h⟩ := gd h
          refine go_iald (pc' := 98) dX4_add_97 rfl g13 ?_
          refine go_ior (pc' := 99) dX4_add_98 rfl ?_
          refine go_ior (pc' := 100) dX4_add_99 rfl ?_
          obtain ⟨g14, h⟩ := gd h
          refine go_iast (pc' := 101) dX4_add_100 rfl g14 ?_
          cases h
          exact k4J
  · rw [if_neg (show ¬ ((σ 95 0) < 4) from c20)] at h
    refine go_iconst (pc' := 9) dX4_add_8 rfl (r32_c rfl) ?_
    cases h
    exact go_iret dX4_add_9 rfl rfl

