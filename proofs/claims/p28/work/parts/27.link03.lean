/-! ===== links: each function is what its bytecode does ===== -/
set_option maxRecDepth 10000 in
theorem l_D_pickAll_7 (d : Nat) (n : Nat) (e : Nat) (p : Nat) (x1 : Int) (x2 : Int) {out : Out} : ∀ (F : Nat) (y1 : Int) (σ2 : Hp) (j17 : Int × Hp), f_D_pickAll_7 p x1 x2 F y1 σ2 = some j17 → Go none (Ev (d + 4)) mt85 68 [some (pvR 0 0 p), some (pvI x1), some (pvI x2), some (pvI j17.1)] [] (true, n, e, j17.2) out → Go none (Ev (d + 4)) mt85 7 [some (pvR 0 0 p), some (pvI x1), some (pvI x2), some (pvI y1)] [] (true, n, e, σ2) out := by
  intro F
  induction F with
  | zero =>
    intro _ _ _ h
    intro _
    rw [f_D_pickAll_7] at h
    cases h
  | succ F ih =>
    intro y1 σ2 j17 h hx
    rw [f_D_pickAll_7] at h
    refine go_iload_n (pc' := 8) dX0_pickAll_7 rfl rfl ?_
    refine go_aload_n (pc' := 9) dX0_pickAll_8 rfl rfl (Nat.le_of_ble_eq_true rfl) ?_
    refine go_getI (pc' := 12) dX0_pickAll_9 rfl rf_0_9 rfl ?_
    refine go_icmp_ge (t := 68) (pc' := 15) dX0_pickAll_12 rfl rfl (fun c16 => ?_) (fun c16 => ?_)
    · rw [if_pos (show (σ2 p 0) ≤ y1 from c16)] at h
      cases h
      exact hx
    · rw [if_neg (show ¬ ((σ2 p 0) ≤ y1) from c16)] at h
      refine go_aload_n (pc' := 16) dX0_pickAll_15 rfl rfl (Nat.le_of_ble_eq_true rfl) ?_
      refine go_getR (k' := 14) (L0 := 12) (P' := (p + 15)) (pc' := 19) dX0_pickAll_16 rfl rf_0_57 rfl rfl (by omega) ?_
      refine go_iload_n (pc' := 20) dX0_pickAll_19 rfl rfl ?_
      obtain ⟨g3, h⟩ := gd h
      refine go_zald (pc' := 21) dX0_pickAll_20 rfl g3 ?_
      obtain ⟨j4, k5, h⟩ := bd h
      have k5J : Go none (Ev (d + 4)) mt85 62 [some (pvR 0 0 p), some (pvI x1), some (pvI x2), some (pvI y1)] [] (true, n, e, j4) out := by
        obtain ⟨g14, h⟩ := gd h
        refine go_iinc (L' := [some (pvR 0 0 p), some (pvI x1), some (pvI x2), some (pvI (y1 + 1))]) (pc' := 65) dX0_pickAll_62 rfl rfl g14 rfl ?_
        refine go_goto (t := 7) dX0_pickAll_65 rfl ?_
        exact ih (y1 + 1) j4 _ h hx
      clear h
      have h := k5
      refine go_if_eq (t := 62) (pc' := 24) dX0_pickAll_21 rfl rfl (fun c15 => ?_) (fun c15 => ?_)
      · rw [if_pos (show (σ2 (p + 15) y1) = 0 from c15)] at h
        cases h
        exact k5J
      · rw [if_neg (show ¬ ((σ2 (p + 15) y1) = 0) from c15)] at h
        refine go_aload_n (pc' := 25) dX0_pickAll_24 rfl rfl (Nat.le_of_ble_eq_true rfl) ?_
        refine go_iload_n (pc' := 26) dX0_pickAll_25 rfl rfl ?_
        obtain ⟨v6, k7, h⟩ := bd h
        have k7 := l_D_isPlain (d + 2) n e σ2 p y1 _ k7
        refine go_call (kc := 18) (Mc := mt18) (v := some (pvI v6)) (w' := (true, n, e, σ2)) (pc' := 29) (st' := [pvI v6]) [pvR 0 0 p, pvI y1] [] (Or.inl rfl) dX0_pickAll_26 rfl rm_0_69 mtE18 rfl rfl rfl (Nat.le_of_ble_eq_true rfl) (Or.inr ⟨_, _, p, rfl, Or.inl rfl⟩) k7 rfl ?_
        refine go_if_eq (t := 62) (pc' := 32) dX0_pickAll_29 rfl rfl (fun c13 => ?_) (fun c13 => ?_)
        · rw [if_pos (show v6 = 0 from c13)] at h
          cases h
          exact k5J
        · rw [if_neg (show ¬ (v6 = 0) from c13)] at h
          refine go_aload_n (pc' := 33) dX0_pickAll_32 rfl rfl (Nat.le_of_ble_eq_true rfl) ?_
          refine go_iload_n (pc' := 34) dX0_pickAll_33 rfl rfl ?_
          refine go_iload_n (pc' := 35) dX0_pickAll_34 rfl rfl ?_
          refine go_iload_n (pc' := 36) dX0_pickAll_35 rfl rfl ?_
          obtain ⟨v8, k9, h⟩ := bd h
          have k9 := l_D_isAsked (d + 0) n e σ2 p x1 x2 y1 _ k9
          refine go_call (kc := 86) (Mc := mt86) (v := some (pvI v8)) (w' := (true, n, e, σ2)) (pc' := 39) (st' := [pvI v8]) [pvR 0 0 p, pvI x1, pvI x2, pvI y1] [] (Or.inl rfl) dX0_pickAll_36 rfl rm_0_117 mtE86 rfl rfl rfl (Nat.le_of_ble_eq_true rfl) (Or.inr ⟨_, _, p, rfl, Or.inl rfl⟩) k9 rfl ?_
          refine go_if_eq (t := 62) (pc' := 42) dX0_pickAll_39 rfl rfl (fun c12 => ?_) (fun c12 => ?_)
          · rw [if_pos (show v8 = 0 from c12)] at h
            cases h
            exact k5J
          · rw [if_neg (show ¬ (v8 = 0) from c12)] at h
            refine go_aload_n (pc' := 43) dX0_pickAll_42 rfl rfl (Nat.le_of_ble_eq_true rfl) ?_
            refine go_getR (k' := 12) (L0 := 12) (P' := (p + 12)) (pc' := 46) dX0_pickAll_43 rfl rf_0_48 rfl rfl (by omega) ?_
            refine go_aload_n (pc' := 47) dX0_pickAll_46 rfl rfl (Nat.le_of_ble_eq_true rfl) ?_
            refine go_getI (pc' := 50) dX0_pickAll_47 rfl rf_0_114 rfl ?_
            refine go_iload_n (pc' := 51) dX0_pickAll_50 rfl rfl ?_
            obtain ⟨g10, h⟩ := gd h
            refine go_iast (pc' := 52) dX0_pickAll_51 rfl g10 ?_
            refine go_aload_n (pc' := 53) dX0_pickAll_52 rfl rfl (Nat.le_of_ble_eq_true rfl) ?_
            refine go_dup (pc' := 54) dX0_pickAll_53 rfl (Nat.ne_of_beq_eq_false rfl) ?_
            refine go_getI (pc' := 57) dX0_pickAll_54 rfl rf_0_114 rfl ?_
            refine go_iconst (pc' := 58) dX0_pickAll_57 rfl (r32_c rfl) ?_
            obtain ⟨g11, h⟩ := gd h
            refine go_iadd (pc' := 59) dX0_pickAll_58 rfl g11 ?_
            refine go_putI (pc' := 62) dX0_pickAll_59 rfl rf_0_114 rfl ?_
            cases h
            exact k5J

set_option maxRecDepth 10000 in
theorem l_D_pickAll (d : Nat) (n e : Nat) (σ : Hp) (p : Nat) (x1 : Int) (x2 : Int) (r : Hp) (h : f_D_pickAll σ p x1 x2 = some r) : Ev (d + 5) 85 [pvR 0 0 p, pvI x1, pvI x2] (true, n, e, σ) (0, none, true, n, e, r) := by
  unfold f_D_pickAll at h
  refine Ev.of mtE85 rfl rfl rfl rfl ?_
  show Go none (Ev (d + 4)) mt85 0 [some (pvR 0 0 p), some (pvI x1), some (pvI x2), none] [] (true, n, e, σ) (0, none, true, n, e, r)
  refine go_aload_n (pc' := 1) dX0_pickAll_0 rfl rfl (Nat.le_of_ble_eq_true rfl) ?_
  refine go_iconst (pc' := 2) dX0_pickAll_1 rfl (r32_c rfl) ?_
  refine go_putI (pc' := 5) dX0_pickAll_2 rfl rf_0_114 rfl ?_
  refine go_iconst (pc' := 6) dX0_pickAll_5 rfl (r32_c rfl) ?_
  refine go_istore_n (L' := [some (pvR 0 0 p), some (pvI x1), some (pvI x2), some (pvI 0)]) (pc' := 7) dX0_pickAll_6 rfl (Nat.le_of_ble_eq_true rfl) rfl ?_
  obtain ⟨j18, k19, h⟩ := bd h
  refine l_D_pickAll_7 d n e p x1 x2 zFuel 0 (hset σ p 2 0) _ k19 ?_
  cases h
  exact go_vret dX0_pickAll_68 rfl rfl

set_option maxRecDepth 10000 in
theorem l_R_begins (d : Nat) (n e : Nat) (σ : Hp) (x1 : Int) (r : Hp) (h : f_R_begins σ x1 = some r) : Ev (d + 1) 89 [pvR 6 0 116, pvI x1] (true, n, e, σ) (0, none, true, n, e, r) := by
  unfold f_R_begins at h
  refine Ev.of mtE89 rfl rfl rfl rfl ?_
  show Go none (Ev (d + 0)) mt89 0 [some (pvR 6 0 116), some (pvI x1)] [] (true, n, e, σ) (0, none, true, n, e, r)
  refine go_aload_n (pc' := 1) dX6_begins_0 rfl rfl (Nat.le_of_ble_eq_true rfl) ?_
  refine go_iload_n (pc' := 2) dX6_begins_1 rfl rfl ?_
  refine go_putI (pc' := 5) dX6_begins_2 rfl rf_6_49 rfl ?_
  refine go_aload_n (pc' := 6) dX6_begins_5 rfl rfl (Nat.le_of_ble_eq_true rfl) ?_
  refine go_dup (pc' := 7) dX6_begins_6 rfl (Nat.ne_of_beq_eq_false rfl) ?_
  refine go_getI (pc' := 10) dX6_begins_7 rfl rf_6_53 rfl ?_
  refine go_iconst (pc' := 11) dX6_begins_10 rfl (r32_c rfl) ?_
  obtain ⟨g1, h⟩ := gd h
  refine go_iadd (pc' := 12) dX6_begins_11 rfl g1 ?_
  refine go_putI (pc' := 15) dX6_begins_12 rfl rf_6_53 rfl ?_
  cases h
  exact go_vret dX6_begins_15 rfl rfl

set_option maxRecDepth 10000 in
theorem l_D_pickedAt (d : Nat) (n e : Nat) (σ : Hp) (p : Nat) (x1 : Int) (r : Int) (h : f_D_pickedAt σ p x1 = some r) : Ev (d + 1) 91 [pvR 0 0 p, pvI x1] (true, n, e, σ) (0, some (pvI r), true, n, e, σ) := by
  unfold f_D_pickedAt at h
  refine Ev.of mtE91 rfl rfl rfl rfl ?_
  show Go none (Ev (d + 0)) mt91 0 [some (pvR 0 0 p), some (pvI x1)] [] (true, n, e, σ) (0, some (pvI r), true, n, e, σ)
  refine go_iload_n (pc' := 1) dX0_pickedAt_0 rfl rfl ?_
  obtain ⟨j1, k2, h⟩ := bd h
  have k2J : Go none (Ev (d + 0)) mt91 28 [some (pvR 0 0 p), some (pvI x1)] [pvI j1] (true, n, e, σ) (0, some (pvI r), true, n, e, σ) := by
    cases h
    exact go_iret dX0_pickedAt_28 rfl rfl
  clear h
  have h := k2
  refine go_if_lt (t := 27) (pc' := 4) dX0_pickedAt_1 rfl rfl (fun c6 => ?_) (fun c6 => ?_)
  · rw [if_pos (show x1 < 0 from c6)] at h
    refine go_iconst (pc' := 28) dX0_pickedAt_27 rfl (r32_c rfl) ?_
    cases h
    exact k2J
  · rw [if_neg (show ¬ (x1 < 0) from c6)] at h
    refine go_iload_n (pc' := 5) dX0_pickedAt_4 rfl rfl ?_
    refine go_aload_n (pc' := 6) dX0_pickedAt_5 rfl rfl (Nat.le_of_ble_eq_true rfl) ?_
    refine go_getI (pc' := 9) dX0_pickedAt_6 rfl rf_0_114 rfl ?_
    refine go_icmp_ge (t := 27) (pc' := 12) dX0_pickedAt_9 rfl rfl (fun c5 => ?_) (fun c5 => ?_)
    · rw [if_pos (show (σ p 2) ≤ x1 from c5)] at h
      refine go_iconst (pc' := 28) dX0_pickedAt_27 rfl (r32_c rfl) ?_
      cases h
      exact k2J
    · rw [if_neg (show ¬ ((σ p 2) ≤ x1) from c5)] at h
      refine go_iload_n (pc' := 13) dX0_pickedAt_12 rfl rfl ?_
      refine go_bipush (pc' := 15) dX0_pickedAt_13 rfl (r32_c rfl) (by decide) ?_
      refine go_icmp_ge (t := 27) (pc' := 18) dX0_pickedAt_15 rfl rfl (fun c4 => ?_) (fun c4 => ?_)
      · rw [if_pos (show 12 ≤ x1 from c4)] at h
        refine go_iconst (pc' := 28) dX0_pickedAt_27 rfl (r32_c rfl) ?_
        cases h
        exact k2J
      · rw [if_neg (show ¬ (12 ≤ x1) from c4)] at h
        refine go_aload_n (pc' := 19) dX0_pickedAt_18 rfl rfl (Nat.le_of_ble_eq_true rfl) ?_
        refine go_getR (k' := 12) (L0 := 12) (P' := (p + 12)) (pc' := 22) dX0_pickedAt_19 rfl rf_0_48 rfl rfl (by omega) ?_
        refine go_iload_n (pc' := 23) dX0_pickedAt_22 rfl rfl ?_
        obtain ⟨g3, h⟩ := gd h
        refine go_iald (pc' := 24) dX0_pickedAt_23 rfl g3 ?_
        refine go_goto (t := 28) dX0_pickedAt_24 rfl ?_
        cases h
        exact k2J

set_option maxRecDepth 10000 in
theorem l_S_chosenCell (d : Nat) (n e : Nat) (σ : Hp) (r : Int) (h : f_S_chosenCell σ = some r) : Ev (d + 1) 92 [pvR 7 0 1] (true, n, e, σ) (0, some (pvI r), true, n, e, σ) := by
  unfold f_S_chosenCell at h
  refine Ev.of mtE92 rfl rfl rfl rfl ?_
  show Go none (Ev (d + 0)) mt92 0 [some (pvR 7 0 1)] [] (true, n, e, σ) (0, some (pvI r), true, n, e, σ)
  refine go_aload_n (pc' := 1) dX7_chosenCell_0 rfl rfl (Nat.le_of_ble_eq_true rfl) ?_
  refine go_getR (k' := 0) (L0 := 0) (P' := 2) (pc' := 4) dX7_chosenCell_1 rfl rf_7_12 rfl rfl (by omega) ?_
  refine go_getI (pc' := 7) dX7_chosenCell_4 rfl rf_7_67 rfl ?_
  refine go_sipush (pc' := 10) dX7_chosenCell_7 rfl (r32_c rfl) (by decide) ?_
  obtain ⟨g1, h⟩ := gd h
  refine go_imul (pc' := 11) dX7_chosenCell_10 rfl g1 ?_
  refine go_aload_n (pc' := 12) dX7_chosenCell_11 rfl rfl (Nat.le_of_ble_eq_true rfl) ?_
  refine go_getR (k' := 0) (L0 := 0) (P' := 32) (pc' := 15) dX7_chosenCell_12 rfl rf_7_18 rfl rfl (by omega) ?_
  refine go_getI (pc' := 18) dX7_chosenCell_15 rfl rf_7_67 rfl ?_
  refine go_bipush (pc' := 20) dX7_chosenCell_18 rfl (r32_c rfl) (by decide) ?_
  obtain ⟨g2, h⟩ := gd h
  refine go_imul (pc' := 21) dX7_chosenCell_20 rfl g2 ?_
  obtain ⟨g3, h⟩ := gd h
  refine go_iadd (pc' := 22) dX7_chosenCell_21 rfl g3 ?_
  refine go_aload_n (pc' := 23) dX7_chosenCell_22 rfl rfl (Nat.le_of_ble_eq_true rfl) ?_
  refine go_getR (k' := 0) (L0 := 0) (P' := 62) (pc' := 26) dX7_chosenCell_23 rfl rf_7_21 rfl rfl (by omega) ?_
  refine go_getI (pc' := 29) dX7_chosenCell_26 rfl rf_7_67 rfl ?_
  obtain ⟨g4, h⟩ := gd h
  refine go_iadd (pc' := 30) dX7_chosenCell_29 rfl g4 ?_
  cases h
  exact go_iret dX7_chosenCell_30 rfl rfl

set_option maxRecDepth 10000 in
theorem l_C_withMember (d : Nat) (n e : Nat) (σ : Hp) (x1 : Int) (x2 : Int) (x3 : Int) (r : Int) (h : f_C_withMember σ x1 x2 x3 = some r) : Ev (d + 2) 93 [pvI x1, pvI x2, pvI x3] (true, n, e, σ) (0, some (pvI r), true, n, e, σ) := by
  unfold f_C_withMember at h
  refine Ev.of mtE93 rfl rfl rfl rfl ?_
  show Go none (Ev (d + 1)) mt93 0 [some (pvI x1), some (pvI x2), some (pvI x3), none] [] (true, n, e, σ) (0, some (pvI r), true, n, e, σ)
  refine go_iload_n (pc' := 1) dX10_withMember_0 rfl rfl ?_
  obtain ⟨j1, k2, h⟩ := bd h
  have k2J : Go none (Ev (d + 1)) mt93 21 [some (pvI x1), some (pvI x2), some (pvI x3), none] [pvI j1] (true, n, e, σ) (0, some (pvI r), true, n, e, σ) := by
    refine go_istore_n (L' := [some (pvI x1), some (pvI x2), some (pvI x3), some (pvI j1)]) (pc' := 22) dX10_withMember_21 rfl (Nat.le_of_ble_eq_true rfl) rfl ?_
    refine go_iload_n (pc' := 23) dX10_withMember_22 rfl rfl ?_
    refine go_iload_n (pc' := 24) dX10_withMember_23 rfl rfl ?_
    refine go_iload_n (pc' := 25) dX10_withMember_24 rfl rfl ?_
    refine go_iload_n (pc' := 26) dX10_withMember_25 rfl rfl ?_
    obtain ⟨v4, k5, h⟩ := bd h
    have k5 := l_C_memberOf (d + 0) n e σ x1 x2 _ k5
    refine go_call (kc := 61) (Mc := mt61) (v := some (pvI v4)) (w' := (true, n, e, σ)) (pc' := 29) (st' := [pvI v4, pvI x3, pvI x1]) [pvI x1, pvI x2] [pvI x3, pvI x1] (Or.inr (Or.inl rfl)) dX10_withMember_26 rfl rm_10_346 mtE61 rfl rfl rfl (Nat.le_of_ble_eq_true rfl) (Or.inl (by decide)) k5 rfl ?_
    obtain ⟨g6, h⟩ := gd h
    refine go_isub (pc' := 30) dX10_withMember_29 rfl g6 ?_
    refine go_iload_n (pc' := 31) dX10_withMember_30 rfl rfl ?_
    obtain ⟨g7, h⟩ := gd h
    refine go_imul (pc' := 32) dX10_withMember_31 rfl g7 ?_
    obtain ⟨g8, h⟩ := gd h
    refine go_iadd (pc' := 33) dX10_withMember_32 rfl g8 ?_
    cases h
    exact go_iret dX10_withMember_33 rfl rfl
  clear h
  have h := k2
  refine go_if_ne (t := 10) (pc' := 4) dX10_withMember_1 rfl rfl (fun c9 => ?_) (fun c9 => ?_)
  · rw [if_pos (show x2 ≠ 0 from c9)] at h
    refine go_iload_n (pc' := 11) dX10_withMember_10 rfl rfl ?_
    refine go_iconst (pc' := 12) dX10_withMember_11 rfl (r32_c rfl) ?_
    refine go_icmp_ne (t := 20) (pc' := 15) dX10_withMember_12 rfl rfl (fun c3 => ?_) (fun c3 => ?_)
    · rw [if_pos (show x2 ≠ 1 from c3)] at h
      refine go_iconst (pc' := 21) dX10_withMember_20 rfl (r32_c rfl) ?_
      cases h
      exact k2J
    · rw [if_neg (show ¬ (x2 ≠ 1) from c3)] at h
      refine go_bipush (pc' := 17) dX10_withMember_15 rfl (r32_c rfl) (by decide) ?_
      refine go_goto (t := 21) dX10_withMember_17 rfl ?_
      cases h
      exact k2J
  · rw [if_neg (show ¬ (x2 ≠ 0) from c9)] at h
    refine go_sipush (pc' := 7) dX10_withMember_4 rfl (r32_c rfl) (by decide) ?_
    refine go_goto (t := 21) dX10_withMember_7 rfl ?_
    cases h
    exact k2J

set_option maxRecDepth 10000 in
theorem l_MS_leastDepth (d : Nat) (n e : Nat) (σ : Hp) (x1 : Int) (x2 : Int) (r : Int) (h : f_MS_leastDepth σ x1 x2 = some r) : Ev (d + 2) 97 [pvR 4 0 95, pvI x1, pvI x2] (true, n, e, σ) (0, some (pvI r), true, n, e, σ) := by
  unfold f_MS_leastDepth at h
  refine Ev.of mtE97 rfl rfl rfl rfl ?_
  show Go none (Ev (d + 1)) mt97 0 [some (pvR 4 0 95), some (pvI x1), some (pvI x2), none] [] (true, n, e, σ) (0, some (pvI r), true, n, e, σ)
  refine go_aload_n (pc' := 1) dX4_leastDepth_0 rfl rfl (Nat.le_of_ble_eq_true rfl) ?_
  refine go_iload_n (pc' := 2) dX4_leastDepth_1 rfl rfl ?_
  obtain ⟨v1, k2, h⟩ := bd h
  have k2 := l_MS_has (d + 0) n e σ x1 _ k2
  refine go_call (kc := 38) (Mc := mt38) (v := some (pvI v1)) (w' := (true, n, e, σ)) (pc' := 5) (st' := [pvI v1]) [pvR 4 0 95, pvI x1] [] (Or.inl rfl) dX4_leastDepth_2 rfl rm_4_31 mtE38 rfl rfl rfl (Nat.le_of_ble_eq_true rfl) (Or.inr ⟨_, _, 95, rfl, Or.inl rfl⟩) k2 rfl ?_
  obtain ⟨j3, k4, h⟩ := bd h
  have k4J : Go none (Ev (d + 1)) mt97 22 [some (pvR 4 0 95), some (pvI x1), some (pvI x2), none] [pvI j3] (true, n, e, σ) (0, some (pvI r), true, n, e, σ) := by
    refine go_istore_n (L' := [some (pvR 4 0 95), some (pvI x1), some (pvI x2), some (pvI j3)]) (pc' := 23) dX4_leastDepth_22 rfl (Nat.le_of_ble_eq_true rfl) rfl ?_
    refine go_iload_n (pc' := 24) dX4_leastDepth_23 rfl rfl ?_
    obtain ⟨j7, k8, h⟩ := bd h
    have k8J : Go none (Ev (d + 1)) mt97 41 [some (pvR 4 0 95), some (pvI x1), some (pvI x2), some (pvI j3)] [pvI j7] (true, n, e, σ) (0, some (pvI r), true, n, e, σ) := by
      cases h
      exact go_iret dX4_leastDepth_41 rfl rfl
    clear h
    have h := k8
    refine go_if_eq (t := 40) (pc' := 27) dX4_leastDepth_24 rfl rfl (fun c12 => ?_) (fun c12 => ?_)
    · rw [if_pos (show j3 = 0 from c12)] at h
      refine go_iconst (pc' := 41) dX4_leastDepth_40 rfl (r32_c rfl) ?_
      cases h
      exact k8J
    · rw [if_neg (show ¬ (j3 = 0) from c12)] at h
      refine go_aload_n (pc' := 28) dX4_leastDepth_27 rfl rfl (Nat.le_of_ble_eq_true rfl) ?_
      refine go_getR (k' := 12) (L0 := 12) (P' := 100) (pc' := 31) dX4_leastDepth_28 rfl rf_4_24 rfl rfl (by omega) ?_
      refine go_iload_n (pc' := 32) dX4_leastDepth_31 rfl rfl ?_
      refine go_iconst (pc' := 33) dX4_leastDepth_32 rfl (r32_c rfl) ?_
      obtain ⟨g9, h⟩ := gd h
      refine go_imul (pc' := 34) dX4_leastDepth_33 rfl g9 ?_
      refine go_iload_n (pc' := 35) dX4_leastDepth_34 rfl rfl ?_
      obtain ⟨g10, h⟩ := gd h
      refine go_iadd (pc' := 36) dX4_leastDepth_35 rfl g10 ?_
      obtain ⟨g11, h⟩ := gd h
      refine go_iald (pc' := 37) dX4_leastDepth_36 rfl g11 ?_
      refine go_goto (t := 41) dX4_leastDepth_37 rfl ?_
      cases h
      exact k8J
  clear h
  have h := k4
  refine go_if_eq (t := 21) (pc' := 8) dX4_leastDepth_5 rfl rfl (fun c13 => ?_) (fun c13 => ?_)
  · rw [if_pos (show v1 = 0 from c13)] at h
    refine go_iconst (pc' := 22) dX4_leastDepth_21 rfl (r32_c rfl) ?_
    cases h
    exact k4J
  · rw [if_neg (show ¬ (v1 = 0) from c13)] at h
    refine go_iload_n (pc' := 9) dX4_leastDepth_8 rfl rfl ?_
    refine go_if_lt (t := 21) (pc' := 12) dX4_leastDepth_9 rfl rfl (fun c6 => ?_) (fun c6 => ?_)
    · rw [if_pos (show x2 < 0 from c6)] at h
      refine go_iconst (pc' := 22) dX4_leastDepth_21 rfl (r32_c rfl) ?_
      cases h
      exact k4J
    · rw [if_neg (show ¬ (x2 < 0) from c6)] at h
      refine go_iload_n (pc' := 13) dX4_leastDepth_12 rfl rfl ?_
      refine go_iconst (pc' := 14) dX4_leastDepth_13 rfl (r32_c rfl) ?_
      refine go_icmp_ge (t := 21) (pc' := 17) dX4_leastDepth_14 rfl rfl (fun c5 => ?_) (fun c5 => ?_)
      · rw [if_pos (show 3 ≤ x2 from c5)] at h
        refine go_iconst (pc' := 22) dX4_leastDepth_21 rfl (r32_c rfl) ?_
        cases h
        exact k4J
      · rw [if_neg (show ¬ (3 ≤ x2) from c5)] at h
        refine go_iconst (pc' := 18) dX4_leastDepth_17 rfl (r32_c rfl) ?_
        refine go_goto (t := 22) dX4_leastDepth_18 rfl ?_
        cases h
        exact k4J

set_option maxRecDepth 10000 in
theorem l_R_meansNothing_2 (d : Nat) (n : Nat) (e : Nat) (σ : Hp) (x1 : Int) : ∀ (F : Nat) (y1 : Int) (r : Int), f_R_meansNothing_2 σ x1 F y1 = some r → Go none (Ev (d + 2)) mt96 2 [some (pvR 6 0 116), some (pvI x1), some (pvI y1), none, none] [] (true, n, e, σ) (0, some (pvI r), true, n, e, σ) := by
  intro F
  induction F with
  | zero =>
    intro _ _ h
    rw [f_R_meansNothing_2] at h
    cases h
  | succ F ih =>
    intro y1 r h
    rw [f_R_meansNothing_2] at h
    refine go_iload_n (pc' := 3) dX6_meansNothing_2 rfl rfl ?_
    refine go_iconst (pc' := 4) dX6_meansNothing_3 rfl (r32_c rfl) ?_
    refine go_icmp_ge (t := 61) (pc' := 7) dX6_meansNothing_4 rfl rfl (fun c18 => ?_) (fun c18 => ?_)
    · rw [if_pos (show 3 ≤ y1 from c18)] at h
      refine go_iconst (pc' := 62) dX6_meansNothing_61 rfl (r32_c rfl) ?_
      obtain ⟨g2, h⟩ := gd h
      cases h
      exact go_zret dX6_meansNothing_62 rfl g2 rfl
    · rw [if_neg (show ¬ (3 ≤ y1) from c18)] at h
      refine go_aload_n (pc' := 8) dX6_meansNothing_7 rfl rfl (Nat.le_of_ble_eq_true rfl) ?_
      refine go_getR (k' := 7) (L0 := 0) (P' := 1) (pc' := 11) dX6_meansNothing_8 rfl rf_6_37 rfl rfl (by omega) ?_
      refine go_iload_n (pc' := 12) dX6_meansNothing_11 rfl rfl ?_
      obtain ⟨v3, k4, h⟩ := bd h
      have k4 := l_S_dimension (d + 1) n e σ y1 _ k4
      refine go_call (kc := 14) (Mc := mt14) (v := some (pvR 0 0 v3)) (w' := (true, n, e, σ)) (pc' := 15) (st' := [pvR 0 0 v3]) [pvR 7 0 1, pvI y1] [] (Or.inl rfl) dX6_meansNothing_12 rfl rm_6_80 mtE14 rfl rfl rfl (Nat.le_of_ble_eq_true rfl) (Or.inr ⟨_, _, 1, rfl, Or.inl rfl⟩) k4 rfl ?_
      refine go_astore_n (L' := [some (pvR 6 0 116), some (pvI x1), some (pvI y1), some (pvR 0 0 v3), none]) (pc' := 16) dX6_meansNothing_15 rfl (Nat.le_of_ble_eq_true rfl) (Nat.le_of_ble_eq_true rfl) rfl ?_
      refine go_iload_n (pc' := 17) dX6_meansNothing_16 rfl rfl ?_
      refine go_iload_n (pc' := 18) dX6_meansNothing_17 rfl rfl ?_
      obtain ⟨v5, k6, h⟩ := bd h
      have k6 := l_C_memberOf (d + 1) n e σ x1 y1 _ k6
      refine go_call (kc := 61) (Mc := mt61) (v := some (pvI v5)) (w' := (true, n, e, σ)) (pc' := 21) (st' := [pvI v5]) [pvI x1, pvI y1] [] (Or.inr (Or.inr (Or.inr (Or.inl rfl)))) dX6_meansNothing_18 rfl rm_6_84 mtE61 rfl rfl rfl (Nat.le_of_ble_eq_true rfl) (Or.inl (by decide)) k6 rfl ?_
      refine go_istore (L' := [some (pvR 6 0 116), some (pvI x1), some (pvI y1), some (pvR 0 0 v3), some (pvI v5)]) (pc' := 23) dX6_meansNothing_21 rfl (Nat.le_of_ble_eq_true rfl) rfl ?_
      refine go_aload_n (pc' := 24) dX6_meansNothing_23 rfl rfl (Nat.le_of_ble_eq_true rfl) ?_
      refine go_iload (pc' := 26) dX6_meansNothing_24 rfl rfl ?_
      obtain ⟨v7, k8, h⟩ := bd h
      have k8 := l_D_isPlain (d + 0) n e σ v3 v5 _ k8
      refine go_call (kc := 18) (Mc := mt18) (v := some (pvI v7)) (w' := (true, n, e, σ)) (pc' := 29) (st' := [pvI v7]) [pvR 0 0 v3, pvI v5] [] (Or.inl rfl) dX6_meansNothing_26 rfl rm_6_126 mtE18 rfl rfl rfl (Nat.le_of_ble_eq_true rfl) (Or.inr ⟨_, _, v3, rfl, Or.inl rfl⟩) k8 rfl ?_
      refine go_if_eq (t := 55) (pc' := 32) dX6_meansNothing_29 rfl rfl (fun c17 => ?_) (fun c17 => ?_)
      · rw [if_pos (show v7 = 0 from c17)] at h
        obtain ⟨g9, h⟩ := gd h
        refine go_iinc (L' := [some (pvR 6 0 116), some (pvI x1), some (pvI (y1 + 1)), some (pvR 0 0 v3), some (pvI v5)]) (pc' := 58) dX6_meansNothing_55 rfl rfl g9 rfl ?_
        refine go_goto (t := 2) dX6_meansNothing_58 rfl ?_
        exact go_sub (ih (y1 + 1) _ h) ⟨Or.inr rfl, Or.inr rfl, Or.inr rfl, Or.inl rfl, Or.inl rfl, trivial⟩
      · rw [if_neg (show ¬ (v7 = 0) from c17)] at h
        refine go_aload_n (pc' := 33) dX6_meansNothing_32 rfl rfl (Nat.le_of_ble_eq_true rfl) ?_
        refine go_iload (pc' := 35) dX6_meansNothing_33 rfl rfl ?_
        obtain ⟨v10, k11, h⟩ := bd h
        have k11 := l_D_depthOf (d + 0) n e σ v3 v5 _ k11
        refine go_call (kc := 24) (Mc := mt24) (v := some (pvI v10)) (w' := (true, n, e, σ)) (pc' := 38) (st' := [pvI v10]) [pvR 0 0 v3, pvI v5] [] (Or.inl rfl) dX6_meansNothing_35 rfl rm_6_187 mtE24 rfl rfl rfl (Nat.le_of_ble_eq_true rfl) (Or.inr ⟨_, _, v3, rfl, Or.inl rfl⟩) k11 rfl ?_
        refine go_aload_n (pc' := 39) dX6_meansNothing_38 rfl rfl (Nat.le_of_ble_eq_true rfl) ?_
        refine go_getR (k' := 4) (L0 := 0) (P' := 95) (pc' := 42) dX6_meansNothing_39 rfl rf_6_41 rfl rfl (by omega) ?_
        refine go_aload_n (pc' := 43) dX6_meansNothing_42 rfl rfl (Nat.le_of_ble_eq_true rfl) ?_
        refine go_getI (pc' := 46) dX6_meansNothing_43 rfl rf_6_49 rfl ?_
        refine go_iload_n (pc' := 47) dX6_meansNothing_46 rfl rfl ?_
        obtain ⟨v12, k13, h⟩ := bd h
        have k13 := l_MS_leastDepth (d + 0) n e σ (σ 116 3) y1 _ k13
        refine go_call (kc := 97) (Mc := mt97) (v := some (pvI v12)) (w' := (true, n, e, σ)) (pc' := 50) (st' := [pvI v12, pvI v10]) [pvR 4 0 95, pvI (σ 116 3), pvI y1] [pvI v10] (Or.inl rfl) dX6_meansNothing_47 rfl rm_6_190 mtE97 rfl rfl rfl (Nat.le_of_ble_eq_true rfl) (Or.inr ⟨_, _, 95, rfl, Or.inl rfl⟩) k13 rfl ?_
        refine go_icmp_ge (t := 55) (pc' := 53) dX6_meansNothing_50 rfl rfl (fun c16 => ?_) (fun c16 => ?_)
        · rw [if_pos (show v12 ≤ v10 from c16)] at h
          obtain ⟨g14, h⟩ := gd h
          refine go_iinc (L' := [some (pvR 6 0 116), some (pvI x1), some (pvI (y1 + 1)), some (pvR 0 0 v3), some (pvI v5)]) (pc' := 58) dX6_meansNothing_55 rfl rfl g14 rfl ?_
          refine go_goto (t := 2) dX6_meansNothing_58 rfl ?_
          exact go_sub (ih (y1 + 1) _ h) ⟨Or.inr rfl, Or.inr rfl, Or.inr rfl, Or.inl rfl, Or.inl rfl, trivial⟩
        · rw [if_neg (show ¬ (v12 ≤ v10) from c16)] at h
          refine go_iconst (pc' := 54) dX6_meansNothing_53 rfl (r32_c rfl) ?_
          obtain ⟨g15, h⟩ := gd h
          cases h
          exact go_zret dX6_meansNothing_54 rfl g15 rfl

set_option maxRecDepth 10000 in
theorem l_R_meansNothing (d : Nat) (n e : Nat) (σ : Hp) (x1 : Int) (r : Int) (h : f_R_meansNothing σ x1 = some r) : Ev (d + 3) 96 [pvR 6 0 116, pvI x1] (true, n, e, σ) (0, some (pvI r), true, n, e, σ) := by
  unfold f_R_meansNothing at h
  refine Ev.of mtE96 rfl rfl rfl rfl ?_
  show Go none (Ev (d + 2)) mt96 0 [some (pvR 6 0 116), some (pvI x1), none, none, none] [] (true, n, e, σ) (0, some (pvI r), true, n, e, σ)
  refine go_iconst (pc' := 1) dX6_meansNothing_0 rfl (r32_c rfl) ?_
  refine go_istore_n (L' := [some (pvR 6 0 116), some (pvI x1), some (pvI 0), none, none]) (pc' := 2) dX6_meansNothing_1 rfl (Nat.le_of_ble_eq_true rfl) rfl ?_
  exact l_R_meansNothing_2 d n e σ x1 zFuel 0 _ h

set_option maxRecDepth 10000 in
theorem l_R_gather_7 (d : Nat) (n : Nat) (e : Nat) (x1 : Int) (x2 : Int) {out : Out} : ∀ (F : Nat) (y1 : Int) (σ2 : Hp) (j27 : Int × Hp), f_R_gather_7 x1 x2 F y1 σ2 = some j27 → Go none (Ev (d + 3)) mt98 125 [some (pvR 6 0 116), some (pvI x1), some (pvI x2), some (pvI j27.1), none] [] (true, n, e, j27.2) out → Go none (Ev (d + 3)) mt98 7 [some (pvR 6 0 116), some (pvI x1), some (pvI x2), some (pvI y1), none] [] (true, n, e, σ2) out := by
  intro F
  induction F with
  | zero =>
    intro _ _ _ h
    intro _
    rw [f_R_gather_7] at h
    cases h
  | succ F ih =>
    intro y1 σ2 j27 h hx
    rw [f_R_gather_7] at h
    refine go_iload_n (pc' := 8) dX6_gather_7 rfl rfl ?_
    refine go_aload_n (pc' := 9) dX6_gather_8 rfl rfl (Nat.le_of_ble_eq_true rfl) ?_
    refine go_getR (k' := 1) (L0 := 0) (P' := 101) (pc' := 12) dX6_gather_9 rfl rf_6_45 rfl rfl (by omega) ?_
    refine go_getI (pc' := 15) dX6_gather_12 rfl rf_6_216 rfl ?_
    refine go_icmp_ge (t := 125) (pc' := 18) dX6_gather_15 rfl rfl (fun c26 => ?_) (fun c26 => ?_)
    · rw [if_pos (show (σ2 101 0) ≤ y1 from c26)] at h
      cases h
      exact hx
    · rw [if_neg (show ¬ ((σ2 101 0) ≤ y1) from c26)] at h
      refine go_aload_n (pc' := 19) dX6_gather_18 rfl rfl (Nat.le_of_ble_eq_true rfl) ?_
      refine go_getR (k' := 1) (L0 := 0) (P' := 101) (pc' := 22) dX6_gather_19 rfl rf_6_45 rfl rfl (by omega) ?_
      refine go_iload_n (pc' := 23) dX6_gather_22 rfl rfl ?_
      obtain ⟨v3, k4, h⟩ := bd h
      have k4 := l_FR_measureAt (d + 1) n e σ2 y1 _ k4
      refine go_call (kc := 82) (Mc := mt82) (v := some (pvI v3)) (w' := (true, n, e, σ2)) (pc' := 26) (st' := [pvI v3]) [pvR 1 0 101, pvI y1] [] (Or.inl rfl) dX6_gather_23 rfl rm_6_219 mtE82 rfl rfl rfl (Nat.le_of_ble_eq_true rfl) (Or.inr ⟨_, _, 101, rfl, Or.inl rfl⟩) k4 rfl ?_
      refine go_iload_n (pc' := 27) dX6_gather_26 rfl rfl ?_
      obtain ⟨j5, k6, h⟩ := bd h
      have k6J : Go none (Ev (d + 3)) mt98 50 [some (pvR 6 0 116), some (pvI x1), some (pvI x2), some (pvI y1), none] [pvI j5] (true, n, e, σ2) out := by
        refine go_istore (L' := [some (pvR 6 0 116), some (pvI x1), some (pvI x2), some (pvI y1), some (pvI j5)]) (pc' := 52) dX6_gather_50 rfl (Nat.le_of_ble_eq_true rfl) rfl ?_
        refine go_iload (pc' := 54) dX6_gather_52 rfl rfl ?_
        obtain ⟨j11, k12, h⟩ := bd h
        have k12J : Go none (Ev (d + 3)) mt98 119 [some (pvR 6 0 116), some (pvI x1), some (pvI x2), some (pvI y1), some (pvI j5)] [] (true, n, e, j11) out := by
          obtain ⟨g23, h⟩ := gd h
          refine go_iinc (L' := [some (pvR 6 0 116), some (pvI x1), some (pvI x2), some (pvI (y1 + 1)), some (pvI j5)]) (pc' := 122) dX6_gather_119 rfl rfl g23 rfl ?_
          refine go_goto (t := 7) dX6_gather_122 rfl ?_
          exact go_sub (ih (y1 + 1) j11 _ h hx) ⟨Or.inr rfl, Or.inr rfl, Or.inr rfl, Or.inr rfl, Or.inl rfl, trivial⟩
        clear h
        have h := k12
        refine go_if_eq (t := 119) (pc' := 57) dX6_gather_54 rfl rfl (fun c24 => ?_) (fun c24 => ?_)
        · rw [if_pos (show j5 = 0 from c24)] at h
          cases h
          exact k12J
        · rw [if_neg (show ¬ (j5 = 0) from c24)] at h
          refine go_aload_n (pc' := 58) dX6_gather_57 rfl rfl (Nat.le_of_ble_eq_true rfl) ?_
          refine go_getR (k' := 12) (L0 := 50) (P' := 121) (pc' := 61) dX6_gather_58 rfl rf_6_25 rfl rfl (by omega) ?_
          refine go_aload_n (pc' := 62) dX6_gather_61 rfl rfl (Nat.le_of_ble_eq_true rfl) ?_
          refine go_getI (pc' := 65) dX6_gather_62 rfl rf_6_202 rfl ?_
          refine go_iload_n (pc' := 66) dX6_gather_65 rfl rfl ?_
          obtain ⟨g13, h⟩ := gd h
          refine go_iast (pc' := 67) dX6_gather_66 rfl g13 ?_
          refine go_aload_n (pc' := 68) dX6_gather_67 rfl rfl (Nat.le_of_ble_eq_true rfl) ?_
          refine go_getR (k' := 12) (L0 := 50) (P' := 122) (pc' := 71) dX6_gather_68 rfl rf_6_28 rfl rfl (by omega) ?_
          refine go_aload_n (pc' := 72) dX6_gather_71 rfl rfl (Nat.le_of_ble_eq_true rfl) ?_
          refine go_getI (pc' := 75) dX6_gather_72 rfl rf_6_202 rfl ?_
          refine go_iload (pc' := 77) dX6_gather_75 rfl rfl ?_
          obtain ⟨g14, h⟩ := gd h
          refine go_iast (pc' := 78) dX6_gather_77 rfl g14 ?_
          refine go_aload_n (pc' := 79) dX6_gather_78 rfl rfl (Nat.le_of_ble_eq_true rfl) ?_
          refine go_getR (k' := 12) (L0 := 50) (P' := 123) (pc' := 82) dX6_gather_79 rfl rf_6_31 rfl rfl (by omega) ?_
          refine go_aload_n (pc' := 83) dX6_gather_82 rfl rfl (Nat.le_of_ble_eq_true rfl) ?_
          refine go_getI (pc' := 86) dX6_gather_83 rfl rf_6_202 rfl ?_
          refine go_aload_n (pc' := 87) dX6_gather_86 rfl rfl (Nat.le_of_ble_eq_true rfl) ?_
          refine go_getR (k' := 7) (L0 := 0) (P' := 1) (pc' := 90) dX6_gather_87 rfl rf_6_37 rfl rfl (by omega) ?_
          refine go_getR (k' := 9) (L0 := 0) (P' := 92) (pc' := 93) dX6_gather_90 rfl rf_6_129 rfl rfl (by omega) ?_
          refine go_aload_n (pc' := 94) dX6_gather_93 rfl rfl (Nat.le_of_ble_eq_true rfl) ?_
          refine go_getR (k' := 1) (L0 := 0) (P' := 101) (pc' := 97) dX6_gather_94 rfl rf_6_45 rfl rfl (by omega) ?_
          refine go_iload_n (pc' := 98) dX6_gather_97 rfl rfl ?_
          obtain ⟨v15, k16, h⟩ := bd h
          have k16 := l_FR_cellAt (d + 1) n e (hset (hset σ2 121 (σ2 116 9) y1) 122 ((hset σ2 121 (σ2 116 9) y1) 116 9) j5) y1 _ k16
          refine go_call (kc := 81) (Mc := mt81) (v := some (pvI v15)) (w' := (true, n, e, (hset (hset σ2 121 (σ2 116 9) y1) 122 ((hset σ2 121 (σ2 116 9) y1) 116 9) j5))) (pc' := 101) (st' := [pvI v15, pvR 9 0 92, pvI ((hset (hset σ2 121 (σ2 116 9) y1) 122 ((hset σ2 121 (σ2 116 9) y1) 116 9) j5) 116 9), pvR 12 50 123]) [pvR 1 0 101, pvI y1] [pvR 9 0 92, pvI ((hset (hset σ2 121 (σ2 116 9) y1) 122 ((hset σ2 121 (σ2 116 9) y1) 116 9) j5) 116 9), pvR 12 50 123] (Or.inl rfl) dX6_gather_98 rfl rm_6_222 mtE81 rfl rfl rfl (Nat.le_of_ble_eq_true rfl) (Or.inr ⟨_, _, 101, rfl, Or.inl rfl⟩) k16 rfl ?_
          refine go_iconst (pc' := 102) dX6_gather_101 rfl (r32_c rfl) ?_
          obtain ⟨v17, k18, h⟩ := bd h
          have k18 := l_C_memberOf (d + 2) n e (hset (hset σ2 121 (σ2 116 9) y1) 122 ((hset σ2 121 (σ2 116 9) y1) 116 9) j5) v15 0 _ k18
          refine go_call (kc := 61) (Mc := mt61) (v := some (pvI v17)) (w' := (true, n, e, (hset (hset σ2 121 (σ2 116 9) y1) 122 ((hset σ2 121 (σ2 116 9) y1) 116 9) j5))) (pc' := 105) (st' := [pvI v17, pvR 9 0 92, pvI ((hset (hset σ2 121 (σ2 116 9) y1) 122 ((hset σ2 121 (σ2 116 9) y1) 116 9) j5) 116 9), pvR 12 50 123]) [pvI v15, pvI 0] [pvR 9 0 92, pvI ((hset (hset σ2 121 (σ2 116 9) y1) 122 ((hset σ2 121 (σ2 116 9) y1) 116 9) j5) 116 9), pvR 12 50 123] (Or.inr (Or.inr (Or.inr (Or.inl rfl)))) dX6_gather_102 rfl rm_6_84 mtE61 rfl rfl rfl (Nat.le_of_ble_eq_true rfl) (Or.inl (by decide)) k18 rfl ?_
          obtain ⟨v19, k20, h⟩ := bd h
          have k20 := l_TO_placeOf (d + 2) n e (hset (hset σ2 121 (σ2 116 9) y1) 122 ((hset σ2 121 (σ2 116 9) y1) 116 9) j5) v17 _ k20
          refine go_call (kc := 23) (Mc := mt23) (v := some (pvI v19)) (w' := (true, n, e, (hset (hset σ2 121 (σ2 116 9) y1) 122 ((hset σ2 121 (σ2 116 9) y1) 116 9) j5))) (pc' := 108) (st' := [pvI v19, pvI ((hset (hset σ2 121 (σ2 116 9) y1) 122 ((hset σ2 121 (σ2 116 9) y1) 116 9) j5) 116 9), pvR 12 50 123]) [pvR 9 0 92, pvI v17] [pvI ((hset (hset σ2 121 (σ2 116 9) y1) 122 ((hset σ2 121 (σ2 116 9) y1) 116 9) j5) 116 9), pvR 12 50 123] (Or.inl rfl) dX6_gather_105 rfl rm_6_228 mtE23 rfl rfl rfl (Nat.le_of_ble_eq_true rfl) (Or.inr ⟨_, _, 92, rfl, Or.inl rfl⟩) k20 rfl ?_
          obtain ⟨g21, h⟩ := gd h
          refine go_iast (pc' := 109) dX6_gather_108 rfl g21 ?_
          refine go_aload_n (pc' := 110) dX6_gather_109 rfl rfl (Nat.le_of_ble_eq_true rfl) ?_
          refine go_dup (pc' := 111) dX6_gather_110 rfl (Nat.ne_of_beq_eq_false rfl) ?_
          refine go_getI (pc' := 114) dX6_gather_111 rfl rf_6_202 rfl ?_
          refine go_iconst (pc' := 115) dX6_gather_114 rfl (r32_c rfl) ?_
          obtain ⟨g22, h⟩ := gd h
          refine go_iadd (pc' := 116) dX6_gather_115 rfl g22 ?_
          refine go_putI (pc' := 119) dX6_gather_116 rfl rf_6_202 rfl ?_
          cases h
          exact k12J
      clear h
      have h := k6
      refine go_icmp_ne (t := 49) (pc' := 30) dX6_gather_27 rfl rfl (fun c25 => ?_) (fun c25 => ?_)
      · rw [if_pos (show v3 ≠ x2 from c25)] at h
        refine go_iconst (pc' := 50) dX6_gather_49 rfl (r32_c rfl) ?_
        cases h
        exact k6J
      · rw [if_neg (show ¬ (v3 ≠ x2) from c25)] at h
        refine go_aload_n (pc' := 31) dX6_gather_30 rfl rfl (Nat.le_of_ble_eq_true rfl) ?_
        refine go_getR (k' := 7) (L0 := 0) (P' := 1) (pc' := 34) dX6_gather_31 rfl rf_6_37 rfl rfl (by omega) ?_
        refine go_aload_n (pc' := 35) dX6_gather_34 rfl rfl (Nat.le_of_ble_eq_true rfl) ?_
        refine go_getR (k' := 1) (L0 := 0) (P' := 101) (pc' := 38) dX6_gather_35 rfl rf_6_45 rfl rfl (by omega) ?_
        refine go_iload_n (pc' := 39) dX6_gather_38 rfl rfl ?_
        obtain ⟨v7, k8, h⟩ := bd h
        have k8 := l_FR_cellAt (d + 1) n e σ2 y1 _ k8
        refine go_call (kc := 81) (Mc := mt81) (v := some (pvI v7)) (w' := (true, n, e, σ2)) (pc' := 42) (st' := [pvI v7, pvR 7 0 1]) [pvR 1 0 101, pvI y1] [pvR 7 0 1] (Or.inl rfl) dX6_gather_39 rfl rm_6_222 mtE81 rfl rfl rfl (Nat.le_of_ble_eq_true rfl) (Or.inr ⟨_, _, 101, rfl, Or.inl rfl⟩) k8 rfl ?_
        refine go_iload_n (pc' := 43) dX6_gather_42 rfl rfl ?_
        obtain ⟨v9, k10, h⟩ := bd h
        have k10 := l_S_weight (d + 0) n e σ2 v7 x1 _ k10
        refine go_call (kc := 73) (Mc := mt73) (v := some (pvI v9)) (w' := (true, n, e, σ2)) (pc' := 46) (st' := [pvI v9]) [pvR 7 0 1, pvI v7, pvI x1] [] (Or.inl rfl) dX6_gather_43 rfl rm_6_225 mtE73 rfl rfl rfl (Nat.le_of_ble_eq_true rfl) (Or.inr ⟨_, _, 1, rfl, Or.inl rfl⟩) k10 rfl ?_
        refine go_goto (t := 50) dX6_gather_46 rfl ?_
        cases h
        exact k6J

set_option maxRecDepth 10000 in
theorem l_R_gather (d : Nat) (n e : Nat) (σ : Hp) (x1 : Int) (x2 : Int) (r : Hp) (h : f_R_gather σ x1 x2 = some r) : Ev (d + 4) 98 [pvR 6 0 116, pvI x1, pvI x2] (true, n, e, σ) (0, none, true, n, e, r) := by
  unfold f_R_gather at h
  refine Ev.of mtE98 rfl rfl rfl rfl ?_
  show Go none (Ev (d + 3)) mt98 0 [some (pvR 6 0 116), some (pvI x1), some (pvI x2), none, none] [] (true, n, e, σ) (0, none, true, n, e, r)
  refine go_aload_n (pc' := 1) dX6_gather_0 rfl rfl (Nat.le_of_ble_eq_true rfl) ?_
  refine go_iconst (pc' := 2) dX6_gather_1 rfl (r32_c rfl) ?_
  refine go_putI (pc' := 5) dX6_gather_2 rfl rf_6_202 rfl ?_
  refine go_iconst (pc' := 6) dX6_gather_5 rfl (r32_c rfl) ?_
  refine go_istore_n (L' := [some (pvR 6 0 116), some (pvI x1), some (pvI x2), some (pvI 0), none]) (pc' := 7) dX6_gather_6 rfl (Nat.le_of_ble_eq_true rfl) rfl ?_
  obtain ⟨j28, k29, h⟩ := bd h
  refine l_R_gather_7 d n e x1 x2 zFuel 0 (hset σ 116 9 0) _ k29 ?_
  cases h
  exact go_vret dX6_gather_125 rfl rfl

set_option maxRecDepth 10000 in
theorem l_C_bounded (d : Nat) (n e : Nat) (σ : Hp) (x1 : Int) (r : Int) (h : f_C_bounded σ x1 = some r) : Ev (d + 1) 101 [pvL x1] (true, n, e, σ) (0, some (pvL r), true, n, e, σ) := by
  unfold f_C_bounded at h
  refine Ev.of mtE101 rfl rfl rfl rfl ?_
  show Go none (Ev (d + 0)) mt101 0 [some (pvL x1), none] [] (true, n, e, σ) (0, some (pvL r), true, n, e, σ)
  refine go_ldc2 (pc' := 3) dX10_bounded_0 rfl (r64_c rfl) rc_10_349 ?_
  refine go_ldc2 (pc' := 6) dX10_bounded_3 rfl (r64_c rfl) rc_10_351 ?_
  refine go_lload_n (pc' := 7) dX10_bounded_6 rfl rfl ?_
  refine go_lmin (pc' := 10) dX10_bounded_7 rfl rm_10_353 (Nat.le_of_ble_eq_true rfl) ?_
  refine go_lmax (pc' := 13) dX10_bounded_10 rfl rm_10_359 (Nat.le_of_ble_eq_true rfl) ?_
  cases h
  exact go_lret dX10_bounded_13 rfl rfl

set_option maxRecDepth 10000 in
theorem l_R_ratio (d : Nat) (n e : Nat) (σ : Hp) (x1 : Int) (x2 : Int) (r : Int) (h : f_R_ratio σ x1 x2 = some r) : Ev (d + 2) 100 [pvL x1, pvL x2] (true, n, e, σ) (0, some (pvL r), true, n, e, σ) := by
  unfold f_R_ratio at h
  refine Ev.of mtE100 rfl rfl rfl rfl ?_
  show Go none (Ev (d + 1)) mt100 0 [some (pvL x1), none, some (pvL x2), none] [] (true, n, e, σ) (0, some (pvL r), true, n, e, σ)
  refine go_lload_n (pc' := 1) dX6_ratio_0 rfl rfl ?_
  refine go_ldc2 (pc' := 4) dX6_ratio_1 rfl (r64_c rfl) rc_6_66 ?_
  refine go_lcmp (pc' := 5) dX6_ratio_4 rfl ?_
  refine go_if_eq (t := 22) (pc' := 8) dX6_ratio_5 rfl rfl (fun c7 => ?_) (fun c7 => ?_)
  · rw [if_pos (show (lcm x1 (-9223372036854775808)) = 0 from c7)] at h
    refine go_ldc2 (pc' := 25) dX6_ratio_22 rfl (r64_c rfl) rc_6_66 ?_
    cases h
    exact go_lret dX6_ratio_25 rfl rfl
  · rw [if_neg (show ¬ ((lcm x1 (-9223372036854775808)) = 0) from c7)] at h
    refine go_lload_n (pc' := 9) dX6_ratio_8 rfl rfl ?_
    refine go_ldc2 (pc' := 12) dX6_ratio_9 rfl (r64_c rfl) rc_6_66 ?_
    refine go_lcmp (pc' := 13) dX6_ratio_12 rfl ?_
    refine go_if_eq (t := 22) (pc' := 16) dX6_ratio_13 rfl rfl (fun c6 => ?_) (fun c6 => ?_)
    · rw [if_pos (show (lcm x2 (-9223372036854775808)) = 0 from c6)] at h
      refine go_ldc2 (pc' := 25) dX6_ratio_22 rfl (r64_c rfl) rc_6_66 ?_
      cases h
      exact go_lret dX6_ratio_25 rfl rfl
    · rw [if_neg (show ¬ ((lcm x2 (-9223372036854775808)) = 0) from c6)] at h
      refine go_lload_n (pc' := 17) dX6_ratio_16 rfl rfl ?_
      refine go_lconst (z := 0) (pc' := 18) dX6_ratio_17 rfl rfl ?_
      refine go_lcmp (pc' := 19) dX6_ratio_18 rfl ?_
      refine go_if_ne (t := 26) (pc' := 22) dX6_ratio_19 rfl rfl (fun c5 => ?_) (fun c5 => ?_)
      · rw [if_pos (show (lcm x2 0) ≠ 0 from c5)] at h
        refine go_ldc2 (pc' := 29) dX6_ratio_26 rfl (r64_c rfl) rc_6_166 ?_
        refine go_lload_n (pc' := 30) dX6_ratio_29 rfl rfl ?_
        obtain ⟨g1, h⟩ := gd h
        refine go_lmul (pc' := 31) dX6_ratio_30 rfl g1 ?_
        refine go_lload_n (pc' := 32) dX6_ratio_31 rfl rfl ?_
        obtain ⟨g2, h⟩ := gd h
        refine go_ldiv (pc' := 33) dX6_ratio_32 rfl g2 ?_
        obtain ⟨v3, k4, h⟩ := bd h
        have k4 := l_C_bounded (d + 0) n e σ (Int.tdiv (1000 * x1) x2) _ k4
        refine go_call (kc := 101) (Mc := mt101) (v := some (pvL v3)) (w' := (true, n, e, σ)) (pc' := 36) (st' := [pvL v3]) [pvL (Int.tdiv (1000 * x1) x2)] [] (Or.inr (Or.inr (Or.inr (Or.inl rfl)))) dX6_ratio_33 rfl rm_6_153 mtE101 rfl rfl rfl (Nat.le_of_ble_eq_true rfl) (Or.inl (by decide)) k4 rfl ?_
        cases h
        exact go_lret dX6_ratio_36 rfl rfl
      · rw [if_neg (show ¬ ((lcm x2 0) ≠ 0) from c5)] at h
        refine go_ldc2 (pc' := 25) dX6_ratio_22 rfl (r64_c rfl) rc_6_66 ?_
        cases h
        exact go_lret dX6_ratio_25 rfl rfl

set_option maxRecDepth 10000 in
theorem l_R_different_17 (d : Nat) (n : Nat) (e : Nat) (σ : Hp) (y1 : Int) (y2 : Int) {out : Out} : ∀ (F : Nat) (y3 : Int) (y4 : Int) (j17 : Int × Int), f_R_different_17 σ y2 F y3 y4 = some j17 → Go none (Ev (d + 2)) mt102 69 [some (pvR 6 0 116), some (pvI y1), some (pvI y2), some (pvI j17.1), some (pvI j17.2)] [] (true, n, e, σ) out → Go none (Ev (d + 2)) mt102 17 [some (pvR 6 0 116), some (pvI y1), some (pvI y2), some (pvI y3), some (pvI y4)] [] (true, n, e, σ) out := by
  intro F
  induction F with
  | zero =>
    intro _ _ _ h
    intro _
    rw [f_R_different_17] at h
    cases h
  | succ F ih =>
    intro y3 y4 j17 h hx
    rw [f_R_different_17] at h
    refine go_iload (pc' := 19) dX6_different_17 rfl rfl ?_
    refine go_iload_n (pc' := 20) dX6_different_19 rfl rfl ?_
    refine go_icmp_ge (t := 69) (pc' := 23) dX6_different_20 rfl rfl (fun c16 => ?_) (fun c16 => ?_)
    · rw [if_pos (show y2 ≤ y4 from c16)] at h
      cases h
      exact hx
    · rw [if_neg (show ¬ (y2 ≤ y4) from c16)] at h
      refine go_iload_n (pc' := 24) dX6_different_23 rfl rfl ?_
      refine go_if_eq (t := 69) (pc' := 27) dX6_different_24 rfl rfl (fun c15 => ?_) (fun c15 => ?_)
      · rw [if_pos (show y3 = 0 from c15)] at h
        cases h
        exact hx
      · rw [if_neg (show ¬ (y3 = 0) from c15)] at h
        refine go_aload_n (pc' := 28) dX6_different_27 rfl rfl (Nat.le_of_ble_eq_true rfl) ?_
        refine go_getR (k' := 1) (L0 := 0) (P' := 101) (pc' := 31) dX6_different_28 rfl rf_6_45 rfl rfl (by omega) ?_
        refine go_aload_n (pc' := 32) dX6_different_31 rfl rfl (Nat.le_of_ble_eq_true rfl) ?_
        refine go_getR (k' := 12) (L0 := 50) (P' := 121) (pc' := 35) dX6_different_32 rfl rf_6_25 rfl rfl (by omega) ?_
        refine go_iload (pc' := 37) dX6_different_35 rfl rfl ?_
        obtain ⟨g5, h⟩ := gd h
        refine go_iald (pc' := 38) dX6_different_37 rfl g5 ?_
        obtain ⟨v6, k7, h⟩ := bd h
        have k7 := l_FR_numberAt (d + 0) n e σ (σ 121 y4) _ k7
        refine go_call (kc := 78) (Mc := mt78) (v := some (pvI v6)) (w' := (true, n, e, σ)) (pc' := 41) (st' := [pvI v6]) [pvR 1 0 101, pvI (σ 121 y4)] [] (Or.inl rfl) dX6_different_38 rfl rm_6_234 mtE78 rfl rfl rfl (Nat.le_of_ble_eq_true rfl) (Or.inr ⟨_, _, 101, rfl, Or.inl rfl⟩) k7 rfl ?_
        refine go_aload_n (pc' := 42) dX6_different_41 rfl rfl (Nat.le_of_ble_eq_true rfl) ?_
        refine go_getR (k' := 1) (L0 := 0) (P' := 101) (pc' := 45) dX6_different_42 rfl rf_6_45 rfl rfl (by omega) ?_
        refine go_aload_n (pc' := 46) dX6_different_45 rfl rfl (Nat.le_of_ble_eq_true rfl) ?_
        refine go_getR (k' := 12) (L0 := 50) (P' := 121) (pc' := 49) dX6_different_46 rfl rf_6_25 rfl rfl (by omega) ?_
        refine go_iload_n (pc' := 50) dX6_different_49 rfl rfl ?_
        obtain ⟨g8, h⟩ := gd h
        refine go_iald (pc' := 51) dX6_different_50 rfl g8 ?_
        obtain ⟨v9, k10, h⟩ := bd h
        have k10 := l_FR_numberAt (d + 0) n e σ (σ 121 y2) _ k10
        refine go_call (kc := 78) (Mc := mt78) (v := some (pvI v9)) (w' := (true, n, e, σ)) (pc' := 54) (st' := [pvI v9, pvI v6]) [pvR 1 0 101, pvI (σ 121 y2)] [pvI v6] (Or.inl rfl) dX6_different_51 rfl rm_6_234 mtE78 rfl rfl rfl (Nat.le_of_ble_eq_true rfl) (Or.inr ⟨_, _, 101, rfl, Or.inl rfl⟩) k10 rfl ?_
        obtain ⟨j11, k12, h⟩ := bd h
        have k12J : Go none (Ev (d + 2)) mt102 62 [some (pvR 6 0 116), some (pvI y1), some (pvI y2), some (pvI y3), some (pvI y4)] [pvI j11] (true, n, e, σ) out := by
          refine go_istore_n (L' := [some (pvR 6 0 116), some (pvI y1), some (pvI y2), some (pvI j11), some (pvI y4)]) (pc' := 63) dX6_different_62 rfl (Nat.le_of_ble_eq_true rfl) rfl ?_
          obtain ⟨g13, h⟩ := gd h
          refine go_iinc (L' := [some (pvR 6 0 116), some (pvI y1), some (pvI y2), some (pvI j11), some (pvI (y4 + 1))]) (pc' := 66) dX6_different_63 rfl rfl g13 rfl ?_
          refine go_goto (t := 17) dX6_different_66 rfl ?_
          exact ih j11 (y4 + 1) _ h hx
        clear h
        have h := k12
        refine go_icmp_eq (t := 61) (pc' := 57) dX6_different_54 rfl rfl (fun c14 => ?_) (fun c14 => ?_)
        · rw [if_pos (show v6 = v9 from c14)] at h
          refine go_iconst (pc' := 62) dX6_different_61 rfl (r32_c rfl) ?_
          cases h
          exact k12J
        · rw [if_neg (show ¬ (v6 = v9) from c14)] at h
          refine go_iconst (pc' := 58) dX6_different_57 rfl (r32_c rfl) ?_
          refine go_goto (t := 62) dX6_different_58 rfl ?_
          cases h
          exact k12J

set_option maxRecDepth 10000 in
theorem l_R_different_4 (d : Nat) (n : Nat) (e : Nat) (σ : Hp) {out : Out} : ∀ (F : Nat) (y1 : Int) (y2 : Int) (j26 : Int × Int), f_R_different_4 σ F y1 y2 = some j26 → Go none (Ev (d + 2)) mt102 82 [some (pvR 6 0 116), some (pvI j26.1), some (pvI j26.2), none, none] [] (true, n, e, σ) out → Go none (Ev (d + 2)) mt102 4 [some (pvR 6 0 116), some (pvI y1), some (pvI y2), none, none] [] (true, n, e, σ) out := by
  intro F
  induction F with
  | zero =>
    intro _ _ _ h
    intro _
    rw [f_R_different_4] at h
    cases h
  | succ F ih =>
    intro y1 y2 j26 h hx
    rw [f_R_different_4] at h
    refine go_iload_n (pc' := 5) dX6_different_4 rfl rfl ?_
    refine go_aload_n (pc' := 6) dX6_different_5 rfl rfl (Nat.le_of_ble_eq_true rfl) ?_
    refine go_getI (pc' := 9) dX6_different_6 rfl rf_6_202 rfl ?_
    refine go_icmp_ge (t := 82) (pc' := 12) dX6_different_9 rfl rfl (fun c25 => ?_) (fun c25 => ?_)
    · rw [if_pos (show (σ 116 9) ≤ y2 from c25)] at h
      cases h
      exact hx
    · rw [if_neg (show ¬ ((σ 116 9) ≤ y2) from c25)] at h
      refine go_iconst (pc' := 13) dX6_different_12 rfl (r32_c rfl) ?_
      refine go_istore_n (L' := [some (pvR 6 0 116), some (pvI y1), some (pvI y2), some (pvI 1), none]) (pc' := 14) dX6_different_13 rfl (Nat.le_of_ble_eq_true rfl) rfl ?_
      refine go_iconst (pc' := 15) dX6_different_14 rfl (r32_c rfl) ?_
      refine go_istore (L' := [some (pvR 6 0 116), some (pvI y1), some (pvI y2), some (pvI 1), some (pvI 0)]) (pc' := 17) dX6_different_15 rfl (Nat.le_of_ble_eq_true rfl) rfl ?_
      obtain ⟨j18, k19, h⟩ := bd h
      refine l_R_different_17 d n e σ y1 y2 zFuel 1 0 _ k19 ?_
      refine go_iload_n (pc' := 70) dX6_different_69 rfl rfl ?_
      obtain ⟨j20, k21, h⟩ := bd h
      have k21J : Go none (Ev (d + 2)) mt102 76 [some (pvR 6 0 116), some (pvI j20), some (pvI y2), some (pvI j18.1), some (pvI j18.2)] [] (true, n, e, σ) out := by
        obtain ⟨g23, h⟩ := gd h
        refine go_iinc (L' := [some (pvR 6 0 116), some (pvI j20), some (pvI (y2 + 1)), some (pvI j18.1), some (pvI j18.2)]) (pc' := 79) dX6_different_76 rfl rfl g23 rfl ?_
        refine go_goto (t := 4) dX6_different_79 rfl ?_
        exact go_sub (ih j20 (y2 + 1) _ h hx) ⟨Or.inr rfl, Or.inr rfl, Or.inr rfl, Or.inl rfl, Or.inl rfl, trivial⟩
      clear h
      have h := k21
      refine go_if_eq (t := 76) (pc' := 73) dX6_different_70 rfl rfl (fun c24 => ?_) (fun c24 => ?_)
      · rw [if_pos (show j18.1 = 0 from c24)] at h
        cases h
        exact k21J
      · rw [if_neg (show ¬ (j18.1 = 0) from c24)] at h
        obtain ⟨g22, h⟩ := gd h
        refine go_iinc (L' := [some (pvR 6 0 116), some (pvI (y1 + 1)), some (pvI y2), some (pvI j18.1), some (pvI j18.2)]) (pc' := 76) dX6_different_73 rfl rfl g22 rfl ?_
        cases h
        exact k21J

set_option maxRecDepth 10000 in
theorem l_R_different (d : Nat) (n e : Nat) (σ : Hp) (r : Int) (h : f_R_different σ = some r) : Ev (d + 3) 102 [pvR 6 0 116] (true, n, e, σ) (0, some (pvL r), true, n, e, σ) := by
  unfold f_R_different at h
  refine Ev.of mtE102 rfl rfl rfl rfl ?_
  show Go none (Ev (d + 2)) mt102 0 [some (pvR 6 0 116), none, none, none, none] [] (true, n, e, σ) (0, some (pvL r), true, n, e, σ)
  refine go_iconst (pc' := 1) dX6_different_0 rfl (r32_c rfl) ?_
  refine go_istore_n (L' := [some (pvR 6 0 116), some (pvI 0), none, none, none]) (pc' := 2) dX6_different_1 rfl (Nat.le_of_ble_eq_true rfl) rfl ?_
  refine go_iconst (pc' := 3) dX6_different_2 rfl (r32_c rfl) ?_
  refine go_istore_n (L' := [some (pvR 6 0 116), some (pvI 0), some (pvI 0), none, none]) (pc' := 4) dX6_different_3 rfl (Nat.le_of_ble_eq_true rfl) rfl ?_
  obtain ⟨j27, k28, h⟩ := bd h
  refine l_R_different_4 d n e σ zFuel 0 0 _ k28 ?_
  refine go_iload_n (pc' := 83) dX6_different_82 rfl rfl ?_
  refine go_i2l (pc' := 84) dX6_different_83 rfl ?_
  cases h
  exact go_lret dX6_different_84 rfl rfl

set_option maxRecDepth 10000 in
theorem l_R_lastPlace_4 (d : Nat) (n : Nat) (e : Nat) (σ : Hp) {out : Out} : ∀ (F : Nat) (y1 : Int) (y2 : Int) (j6 : Int × Int), f_R_lastPlace_4 σ F y1 y2 = some j6 → Go none (Ev (d + 0)) mt103 29 [some (pvR 6 0 116), some (pvI j6.1), some (pvI j6.2)] [] (true, n, e, σ) out → Go none (Ev (d + 0)) mt103 4 [some (pvR 6 0 116), some (pvI y1), some (pvI y2)] [] (true, n, e, σ) out := by
  intro F
  induction F with
  | zero =>
    intro _ _ _ h
    intro _
    rw [f_R_lastPlace_4] at h
    cases h
  | succ F ih =>
    intro y1 y2 j6 h hx
    rw [f_R_lastPlace_4] at h
    refine go_iload_n (pc' := 5) dX6_lastPlace_4 rfl rfl ?_
    refine go_aload_n (pc' := 6) dX6_lastPlace_5 rfl rfl (Nat.le_of_ble_eq_true rfl) ?_
    refine go_getI (pc' := 9) dX6_lastPlace_6 rfl rf_6_202 rfl ?_
    refine go_icmp_ge (t := 29) (pc' := 12) dX6_lastPlace_9 rfl rfl (fun c5 => ?_) (fun c5 => ?_)
    · rw [if_pos (show (σ 116 9) ≤ y2 from c5)] at h
      cases h
      exact hx
    · rw [if_neg (show ¬ ((σ 116 9) ≤ y2) from c5)] at h
      refine go_iload_n (pc' := 13) dX6_lastPlace_12 rfl rfl ?_
      refine go_aload_n (pc' := 14) dX6_lastPlace_13 rfl rfl (Nat.le_of_ble_eq_true rfl) ?_
      refine go_getR (k' := 12) (L0 := 50) (P' := 123) (pc' := 17) dX6_lastPlace_14 rfl rf_6_31 rfl rfl (by omega) ?_
      refine go_iload_n (pc' := 18) dX6_lastPlace_17 rfl rfl ?_
      obtain ⟨g3, h⟩ := gd h
      refine go_iald (pc' := 19) dX6_lastPlace_18 rfl g3 ?_
      refine go_imax (pc' := 22) dX6_lastPlace_19 rfl rm_6_231 (Nat.le_of_ble_eq_true rfl) ?_
      refine go_istore_n (L' := [some (pvR 6 0 116), some (pvI (max y1 (σ 123 y2))), some (pvI y2)]) (pc' := 23) dX6_lastPlace_22 rfl (Nat.le_of_ble_eq_true rfl) rfl ?_
      obtain ⟨g4, h⟩ := gd h
      refine go_iinc (L' := [some (pvR 6 0 116), some (pvI (max y1 (σ 123 y2))), some (pvI (y2 + 1))]) (pc' := 26) dX6_lastPlace_23 rfl rfl g4 rfl ?_
      refine go_goto (t := 4) dX6_lastPlace_26 rfl ?_
      exact ih (max y1 (σ 123 y2)) (y2 + 1) _ h hx

set_option maxRecDepth 10000 in
theorem l_R_lastPlace (d : Nat) (n e : Nat) (σ : Hp) (r : Int) (h : f_R_lastPlace σ = some r) : Ev (d + 1) 103 [pvR 6 0 116] (true, n, e, σ) (0, some (pvI r), true, n, e, σ) := by
  unfold f_R_lastPlace at h
  refine Ev.of mtE103 rfl rfl rfl rfl ?_
  show Go none (Ev (d + 0)) mt103 0 [some (pvR 6 0 116), none, none] [] (true, n, e, σ) (0, some (pvI r), true, n, e, σ)
  refine go_iconst (pc' := 1) dX6_lastPlace_0 rfl (r32_c rfl) ?_
  refine go_istore_n (L' := [some (pvR 6 0 116), some (pvI (-1)), none]) (pc' := 2) dX6_lastPlace_1 rfl (Nat.le_of_ble_eq_true rfl) rfl ?_
  refine go_iconst (pc' := 3) dX6_lastPlace_2 rfl (r32_c rfl) ?_
  refine go_istore_n (L' := [some (pvR 6 0 116), some (pvI (-1)), some (pvI 0)]) (pc' := 4) dX6_lastPlace_3 rfl (Nat.le_of_ble_eq_true rfl) rfl ?_
  obtain ⟨j7, k8, h⟩ := bd h
  refine l_R_lastPlace_4 d n e σ zFuel (-1) 0 _ k8 ?_
  refine go_iload_n (pc' := 30) dX6_lastPlace_29 rfl rfl ?_
  cases h
  exact go_iret dX6_lastPlace_30 rfl rfl

set_option maxRecDepth 10000 in
theorem l_R_sum_5 (d : Nat) (n : Nat) (e : Nat) (σ : Hp) (x1 : Int) {out : Out} : ∀ (F : Nat) (y1 : Int) (y2 : Int) (j22 : Int × Int), f_R_sum_5 σ x1 F y1 y2 = some j22 → Go none (Ev (d + 2)) mt104 63 [some (pvR 6 0 116), some (pvI x1), some (pvL j22.1), none, some (pvI j22.2)] [] (true, n, e, σ) out → Go none (Ev (d + 2)) mt104 5 [some (pvR 6 0 116), some (pvI x1), some (pvL y1), none, some (pvI y2)] [] (true, n, e, σ) out := by
  intro F
  induction F with
  | zero =>
    intro _ _ _ h
    intro _
    rw [f_R_sum_5] at h
    cases h
  | succ F ih =>
    intro y1 y2 j22 h hx
    rw [f_R_sum_5] at h
    refine go_iload (pc' := 7) dX6_sum_5 rfl rfl ?_
    refine go_aload_n (pc' := 8) dX6_sum_7 rfl rfl (Nat.le_of_ble_eq_true rfl) ?_
    refine go_getI (pc' := 11) dX6_sum_8 rfl rf_6_202 rfl ?_
    refine go_icmp_ge (t := 63) (pc' := 14) dX6_sum_11 rfl rfl (fun c21 => ?_) (fun c21 => ?_)
    · rw [if_pos (show (σ 116 9) ≤ y2 from c21)] at h
      cases h
      exact hx
    · rw [if_neg (show ¬ ((σ 116 9) ≤ y2) from c21)] at h
      refine go_iload_n (pc' := 15) dX6_sum_14 rfl rfl ?_
      refine go_iconst (pc' := 16) dX6_sum_15 rfl (r32_c rfl) ?_
      obtain ⟨j3, k4, h⟩ := bd h
      have k4J : Go none (Ev (d + 2)) mt104 57 [some (pvR 6 0 116), some (pvI x1), some (pvL j3), none, some (pvI y2)] [] (true, n, e, σ) out := by
        obtain ⟨g19, h⟩ := gd h
        refine go_iinc (L' := [some (pvR 6 0 116), some (pvI x1), some (pvL j3), none, some (pvI (y2 + 1))]) (pc' := 60) dX6_sum_57 rfl rfl g19 rfl ?_
        refine go_goto (t := 5) dX6_sum_60 rfl ?_
        exact ih j3 (y2 + 1) _ h hx
      clear h
      have h := k4
      refine go_icmp_eq (t := 30) (pc' := 19) dX6_sum_16 rfl rfl (fun c20 => ?_) (fun c20 => ?_)
      · rw [if_pos (show x1 = (-1) from c20)] at h
        refine go_lload_n (pc' := 31) dX6_sum_30 rfl rfl ?_
        refine go_aload_n (pc' := 32) dX6_sum_31 rfl rfl (Nat.le_of_ble_eq_true rfl) ?_
        refine go_getR (k' := 12) (L0 := 50) (P' := 122) (pc' := 35) dX6_sum_32 rfl rf_6_28 rfl rfl (by omega) ?_
        refine go_iload (pc' := 37) dX6_sum_35 rfl rfl ?_
        obtain ⟨g5, h⟩ := gd h
        refine go_iald (pc' := 38) dX6_sum_37 rfl g5 ?_
        refine go_i2l (pc' := 39) dX6_sum_38 rfl ?_
        refine go_aload_n (pc' := 40) dX6_sum_39 rfl rfl (Nat.le_of_ble_eq_true rfl) ?_
        refine go_getR (k' := 1) (L0 := 0) (P' := 101) (pc' := 43) dX6_sum_40 rfl rf_6_45 rfl rfl (by omega) ?_
        refine go_aload_n (pc' := 44) dX6_sum_43 rfl rfl (Nat.le_of_ble_eq_true rfl) ?_
        refine go_getR (k' := 12) (L0 := 50) (P' := 121) (pc' := 47) dX6_sum_44 rfl rf_6_25 rfl rfl (by omega) ?_
        refine go_iload (pc' := 49) dX6_sum_47 rfl rfl ?_
        obtain ⟨g6, h⟩ := gd h
        refine go_iald (pc' := 50) dX6_sum_49 rfl g6 ?_
        obtain ⟨v7, k8, h⟩ := bd h
        have k8 := l_FR_numberAt (d + 0) n e σ (σ 121 y2) _ k8
        refine go_call (kc := 78) (Mc := mt78) (v := some (pvI v7)) (w' := (true, n, e, σ)) (pc' := 53) (st' := [pvI v7, pvL (σ 122 y2), pvL y1]) [pvR 1 0 101, pvI (σ 121 y2)] [pvL (σ 122 y2), pvL y1] (Or.inl rfl) dX6_sum_50 rfl rm_6_234 mtE78 rfl rfl rfl (Nat.le_of_ble_eq_true rfl) (Or.inr ⟨_, _, 101, rfl, Or.inl rfl⟩) k8 rfl ?_
        refine go_i2l (pc' := 54) dX6_sum_53 rfl ?_
        obtain ⟨g9, h⟩ := gd h
        refine go_lmul (pc' := 55) dX6_sum_54 rfl g9 ?_
        obtain ⟨g10, h⟩ := gd h
        refine go_ladd (pc' := 56) dX6_sum_55 rfl g10 ?_
        refine go_lstore_n (L' := [some (pvR 6 0 116), some (pvI x1), some (pvL (y1 + ((σ 122 y2) * v7))), none, some (pvI y2)]) (pc' := 57) dX6_sum_56 rfl (Nat.le_of_ble_eq_true rfl) rfl ?_
        cases h
        exact k4J
      · rw [if_neg (show ¬ (x1 = (-1)) from c20)] at h
        refine go_aload_n (pc' := 20) dX6_sum_19 rfl rfl (Nat.le_of_ble_eq_true rfl) ?_
        refine go_getR (k' := 12) (L0 := 50) (P' := 123) (pc' := 23) dX6_sum_20 rfl rf_6_31 rfl rfl (by omega) ?_
        refine go_iload (pc' := 25) dX6_sum_23 rfl rfl ?_
        obtain ⟨g11, h⟩ := gd h
        refine go_iald (pc' := 26) dX6_sum_25 rfl g11 ?_
        refine go_iload_n (pc' := 27) dX6_sum_26 rfl rfl ?_
        refine go_icmp_ne (t := 57) (pc' := 30) dX6_sum_27 rfl rfl (fun c18 => ?_) (fun c18 => ?_)
        · rw [if_pos (show (σ 123 y2) ≠ x1 from c18)] at h
          cases h
          exact k4J
        · rw [if_neg (show ¬ ((σ 123 y2) ≠ x1) from c18)] at h
          refine go_lload_n (pc' := 31) dX6_sum_30 rfl rfl ?_
          refine go_aload_n (pc' := 32) dX6_sum_31 rfl rfl (Nat.le_of_ble_eq_true rfl) ?_
          refine go_getR (k' := 12) (L0 := 50) (P' := 122) (pc' := 35) dX6_sum_32 rfl rf_6_28 rfl rfl (by omega) ?_
          refine go_iload (pc' := 37) dX6_sum_35 rfl rfl ?_
          obtain ⟨g12, h⟩ := gd h
          refine go_iald (pc' := 38) dX6_sum_37 rfl g12 ?_
          refine go_i2l (pc' := 39) dX6_sum_38 rfl ?_
          refine go_aload_n (pc' := 40) dX6_sum_39 rfl rfl (Nat.le_of_ble_eq_true rfl) ?_
          refine go_getR (k' := 1) (L0 := 0) (P' := 101) (pc' := 43) dX6_sum_40 rfl rf_6_45 rfl rfl (by omega) ?_
          refine go_aload_n (pc' := 44) dX6_sum_43 rfl rfl (Nat.le_of_ble_eq_true rfl) ?_
          refine go_getR (k' := 12) (L0 := 50) (P' := 121) (pc' := 47) dX6_sum_44 rfl rf_6_25 rfl rfl (by omega) ?_
          refine go_iload (pc' := 49) dX6_sum_47 rfl rfl ?_
          obtain ⟨g13, h⟩ := gd h
          refine go_iald (pc' := 50) dX6_sum_49 rfl g13 ?_
          obtain ⟨v14, k15, h⟩ := bd h
          have k15 := l_FR_numberAt (d + 0) n e σ (σ 121 y2) _ k15
          refine go_call (kc := 78) (Mc := mt78) (v := some (pvI v14)) (w' := (true, n, e, σ)) (pc' := 53) (st' := [pvI v14, pvL (σ 122 y2), pvL y1]) [pvR 1 0 101, pvI (σ 121 y2)] [pvL (σ 122 y2), pvL y1] (Or.inl rfl) dX6_sum_50 rfl rm_6_234 mtE78 rfl rfl rfl (Nat.le_of_ble_eq_true rfl) (Or.inr ⟨_, _, 101, rfl, Or.inl rfl⟩) k15 rfl ?_
          refine go_i2l (pc' := 54) dX6_sum_53 rfl ?_
          obtain ⟨g16, h⟩ := gd h
          refine go_lmul (pc' := 55) dX6_sum_54 rfl g16 ?_
          obtain ⟨g17, h⟩ := gd h
          refine go_ladd (pc' := 56) dX6_sum_55 rfl g17 ?_
          refine go_lstore_n (L' := [some (pvR 6 0 116), some (pvI x1), some (pvL (y1 + ((σ 122 y2) * v14))), none, some (pvI y2)]) (pc' := 57) dX6_sum_56 rfl (Nat.le_of_ble_eq_true rfl) rfl ?_
          cases h
          exact k4J

set_option maxRecDepth 10000 in
theorem l_R_sum (d : Nat) (n e : Nat) (σ : Hp) (x1 : Int) (r : Int) (h : f_R_sum σ x1 = some r) : Ev (d + 3) 104 [pvR 6 0 116, pvI x1] (true, n, e, σ) (0, some (pvL r), true, n, e, σ) := by
  unfold f_R_sum at h
  refine Ev.of mtE104 rfl rfl rfl rfl ?_
  show Go none (Ev (d + 2)) mt104 0 [some (pvR 6 0 116), some (pvI x1), none, none, none] [] (true, n, e, σ) (0, some (pvL r), true, n, e, σ)
  refine go_lconst (z := 0) (pc' := 1) dX6_sum_0 rfl rfl ?_
  refine go_lstore_n (L' := [some (pvR 6 0 116), some (pvI x1), some (pvL 0), none, none]) (pc' := 2) dX6_sum_1 rfl (Nat.le_of_ble_eq_true rfl) rfl ?_
  refine go_iconst (pc' := 3) dX6_sum_2 rfl (r32_c rfl) ?_
  refine go_istore (L' := [some (pvR 6 0 116), some (pvI x1), some (pvL 0), none, some (pvI 0)]) (pc' := 5) dX6_sum_3 rfl (Nat.le_of_ble_eq_true rfl) rfl ?_
  obtain ⟨j23, k24, h⟩ := bd h
  refine l_R_sum_5 d n e σ x1 zFuel 0 0 _ k24 ?_
  refine go_lload_n (pc' := 64) dX6_sum_63 rfl rfl ?_
  cases h
  exact go_lret dX6_sum_64 rfl rfl

set_option maxRecDepth 10000 in
theorem l_R_ofGathered (d : Nat) (n e : Nat) (σ : Hp) (x1 : Int) (r : Int) (h : f_R_ofGathered σ x1 = some r) : Ev (d + 4) 99 [pvR 6 0 116, pvI x1] (true, n, e, σ) (0, some (pvL r), true, n, e, σ) := by
  unfold f_R_ofGathered at h
  refine Ev.of mtE99 rfl rfl rfl rfl ?_
  show Go none (Ev (d + 3)) mt99 0 [some (pvR 6 0 116), some (pvI x1), none] [] (true, n, e, σ) (0, some (pvL r), true, n, e, σ)
  refine go_aload_n (pc' := 1) dX6_ofGathered_0 rfl rfl (Nat.le_of_ble_eq_true rfl) ?_
  refine go_getR (k' := 4) (L0 := 0) (P' := 95) (pc' := 4) dX6_ofGathered_1 rfl rf_6_41 rfl rfl (by omega) ?_
  refine go_iload_n (pc' := 5) dX6_ofGathered_4 rfl rfl ?_
  obtain ⟨v1, k2, h⟩ := bd h
  have k2 := l_MS_kindOf (d + 1) n e σ x1 _ k2
  refine go_call (kc := 62) (Mc := mt62) (v := some (pvI v1)) (w' := (true, n, e, σ)) (pc' := 8) (st' := [pvI v1]) [pvR 4 0 95, pvI x1] [] (Or.inl rfl) dX6_ofGathered_5 rfl rm_6_193 mtE62 rfl rfl rfl (Nat.le_of_ble_eq_true rfl) (Or.inr ⟨_, _, 95, rfl, Or.inl rfl⟩) k2 rfl ?_
  refine go_istore_n (L' := [some (pvR 6 0 116), some (pvI x1), some (pvI v1)]) (pc' := 9) dX6_ofGathered_8 rfl (Nat.le_of_ble_eq_true rfl) rfl ?_
  refine go_iload_n (pc' := 10) dX6_ofGathered_9 rfl rfl ?_
  refine go_iconst (pc' := 11) dX6_ofGathered_10 rfl (r32_c rfl) ?_
  refine go_icmp_ne (t := 46) (pc' := 14) dX6_ofGathered_11 rfl rfl (fun c22 => ?_) (fun c22 => ?_)
  · rw [if_pos (show v1 ≠ 3 from c22)] at h
    refine go_aload_n (pc' := 47) dX6_ofGathered_46 rfl rfl (Nat.le_of_ble_eq_true rfl) ?_
    refine go_getI (pc' := 50) dX6_ofGathered_47 rfl rf_6_202 rfl ?_
    refine go_if_ne (t := 57) (pc' := 53) dX6_ofGathered_50 rfl rfl (fun c15 => ?_) (fun c15 => ?_)
    · rw [if_pos (show (σ 116 9) ≠ 0 from c15)] at h
      refine go_iload_n (pc' := 58) dX6_ofGathered_57 rfl rfl ?_
      refine go_iconst (pc' := 59) dX6_ofGathered_58 rfl (r32_c rfl) ?_
      refine go_icmp_ne (t := 67) (pc' := 62) dX6_ofGathered_59 rfl rfl (fun c14 => ?_) (fun c14 => ?_)
      · rw [if_pos (show v1 ≠ 2 from c14)] at h
        refine go_iload_n (pc' := 68) dX6_ofGathered_67 rfl rfl ?_
        refine go_iconst (pc' := 69) dX6_ofGathered_68 rfl (r32_c rfl) ?_
        obtain ⟨j3, k4, h⟩ := bd h
        have k4J : Go none (Ev (d + 3)) mt99 88 [some (pvR 6 0 116), some (pvI x1), some (pvI v1)] [pvL j3] (true, n, e, σ) (0, some (pvL r), true, n, e, σ) := by
          cases h
          exact go_lret dX6_ofGathered_88 rfl rfl
        clear h
        have h := k4
        refine go_icmp_ne (t := 83) (pc' := 72) dX6_ofGathered_69 rfl rfl (fun c11 => ?_) (fun c11 => ?_)
        · rw [if_pos (show v1 ≠ 1 from c11)] at h
          refine go_aload_n (pc' := 84) dX6_ofGathered_83 rfl rfl (Nat.le_of_ble_eq_true rfl) ?_
          refine go_iconst (pc' := 85) dX6_ofGathered_84 rfl (r32_c rfl) ?_
          obtain ⟨v5, k6, h⟩ := bd h
          have k6 := l_R_sum (d + 0) n e σ (-1) _ k6
          refine go_call (kc := 104) (Mc := mt104) (v := some (pvL v5)) (w' := (true, n, e, σ)) (pc' := 88) (st' := [pvL v5]) [pvR 6 0 116, pvI (-1)] [] (Or.inl rfl) dX6_ofGathered_85 rfl rm_6_213 mtE104 rfl rfl rfl (Nat.le_of_ble_eq_true rfl) (Or.inr ⟨_, _, 116, rfl, Or.inl rfl⟩) k6 rfl ?_
          cases h
          exact k4J
        · rw [if_neg (show ¬ (v1 ≠ 1) from c11)] at h
          refine go_aload_n (pc' := 73) dX6_ofGathered_72 rfl rfl (Nat.le_of_ble_eq_true rfl) ?_
          refine go_aload_n (pc' := 74) dX6_ofGathered_73 rfl rfl (Nat.le_of_ble_eq_true rfl) ?_
          obtain ⟨v7, k8, h⟩ := bd h
          have k8 := l_R_lastPlace (d + 2) n e σ _ k8
          refine go_call (kc := 103) (Mc := mt103) (v := some (pvI v7)) (w' := (true, n, e, σ)) (pc' := 77) (st' := [pvI v7, pvR 6 0 116]) [pvR 6 0 116] [pvR 6 0 116] (Or.inl rfl) dX6_ofGathered_74 rfl rm_6_209 mtE103 rfl rfl rfl (Nat.le_of_ble_eq_true rfl) (Or.inr ⟨_, _, 116, rfl, Or.inl rfl⟩) k8 rfl ?_
          obtain ⟨v9, k10, h⟩ := bd h
          have k10 := l_R_sum (d + 0) n e σ v7 _ k10
          refine go_call (kc := 104) (Mc := mt104) (v := some (pvL v9)) (w' := (true, n, e, σ)) (pc' := 80) (st' := [pvL v9]) [pvR 6 0 116, pvI v7] [] (Or.inl rfl) dX6_ofGathered_77 rfl rm_6_213 mtE104 rfl rfl rfl (Nat.le_of_ble_eq_true rfl) (Or.inr ⟨_, _, 116, rfl, Or.inl rfl⟩) k10 rfl ?_
          refine go_goto (t := 88) dX6_ofGathered_80 rfl ?_
          cases h
          exact k4J
      · rw [if_neg (show ¬ (v1 ≠ 2) from c14)] at h
        refine go_aload_n (pc' := 63) dX6_ofGathered_62 rfl rfl (Nat.le_of_ble_eq_true rfl) ?_
        obtain ⟨v12, k13, h⟩ := bd h
        have k13 := l_R_different (d + 0) n e σ _ k13
        refine go_call (kc := 102) (Mc := mt102) (v := some (pvL v12)) (w' := (true, n, e, σ)) (pc' := 66) (st' := [pvL v12]) [pvR 6 0 116] [] (Or.inl rfl) dX6_ofGathered_63 rfl rm_6_205 mtE102 rfl rfl rfl (Nat.le_of_ble_eq_true rfl) (Or.inr ⟨_, _, 116, rfl, Or.inl rfl⟩) k13 rfl ?_
        cases h
        exact go_lret dX6_ofGathered_66 rfl rfl
    · rw [if_neg (show ¬ ((σ 116 9) ≠ 0) from c15)] at h
      refine go_ldc2 (pc' := 56) dX6_ofGathered_53 rfl (r64_c rfl) rc_6_66 ?_
      cases h
      exact go_lret dX6_ofGathered_56 rfl rfl
  · rw [if_neg (show ¬ (v1 ≠ 3) from c22)] at h
    refine go_aload_n (pc' := 15) dX6_ofGathered_14 rfl rfl (Nat.le_of_ble_eq_true rfl) ?_
    refine go_getR (k' := 13) (L0 := 4) (P' := 120) (pc' := 18) dX6_ofGathered_15 rfl rf_6_22 rfl rfl (by omega) ?_
    refine go_aload_n (pc' := 19) dX6_ofGathered_18 rfl rfl (Nat.le_of_ble_eq_true rfl) ?_
    refine go_getR (k' := 4) (L0 := 0) (P' := 95) (pc' := 22) dX6_ofGathered_19 rfl rf_6_41 rfl rfl (by omega) ?_
    refine go_getR (k' := 12) (L0 := 4) (P' := 97) (pc' := 25) dX6_ofGathered_22 rfl rf_6_196 rfl rfl (by omega) ?_
    refine go_iload_n (pc' := 26) dX6_ofGathered_25 rfl rfl ?_
    obtain ⟨g16, h⟩ := gd h
    refine go_iald (pc' := 27) dX6_ofGathered_26 rfl g16 ?_
    obtain ⟨g17, h⟩ := gd h
    refine go_lald (pc' := 28) dX6_ofGathered_27 rfl g17 ?_
    refine go_aload_n (pc' := 29) dX6_ofGathered_28 rfl rfl (Nat.le_of_ble_eq_true rfl) ?_
    refine go_getR (k' := 13) (L0 := 4) (P' := 120) (pc' := 32) dX6_ofGathered_29 rfl rf_6_22 rfl rfl (by omega) ?_
    refine go_aload_n (pc' := 33) dX6_ofGathered_32 rfl rfl (Nat.le_of_ble_eq_true rfl) ?_
    refine go_getR (k' := 4) (L0 := 0) (P' := 95) (pc' := 36) dX6_ofGathered_33 rfl rf_6_41 rfl rfl (by omega) ?_
    refine go_getR (k' := 12) (L0 := 4) (P' := 98) (pc' := 39) dX6_ofGathered_36 rfl rf_6_199 rfl rfl (by omega) ?_
    refine go_iload_n (pc' := 40) dX6_ofGathered_39 rfl rfl ?_
    obtain ⟨g18, h⟩ := gd h
    refine go_iald (pc' := 41) dX6_ofGathered_40 rfl g18 ?_
    obtain ⟨g19, h⟩ := gd h
    refine go_lald (pc' := 42) dX6_ofGathered_41 rfl g19 ?_
    obtain ⟨v20, k21, h⟩ := bd h
    have k21 := l_R_ratio (d + 1) n e σ (σ 120 (σ 97 x1)) (σ 120 (σ 98 x1)) _ k21
    refine go_call (kc := 100) (Mc := mt100) (v := some (pvL v20)) (w' := (true, n, e, σ)) (pc' := 45) (st' := [pvL v20]) [pvL (σ 120 (σ 97 x1)), pvL (σ 120 (σ 98 x1))] [] (Or.inr (Or.inl rfl)) dX6_ofGathered_42 rfl rm_6_150 mtE100 rfl rfl rfl (Nat.le_of_ble_eq_true rfl) (Or.inl (by decide)) k21 rfl ?_
    cases h
    exact go_lret dX6_ofGathered_45 rfl rfl

set_option maxRecDepth 10000 in
theorem l_R_plainValue_14 (d : Nat) (n : Nat) (e : Nat) (x1 : Int) {out : Out} : ∀ (F : Nat) (y3 : Int) (σ4 : Hp) (j18 : Int × Hp), f_R_plainValue_14 x1 F y3 σ4 = some j18 → Go none (Ev (d + 4)) mt95 65 [some (pvR 6 0 116), some (pvI x1), some (pvI j18.1)] [] (true, n, e, j18.2) out → Go none (Ev (d + 4)) mt95 14 [some (pvR 6 0 116), some (pvI x1), some (pvI y3)] [] (true, n, e, σ4) out := by
  intro F
  induction F with
  | zero =>
    intro _ _ _ h
    intro _
    rw [f_R_plainValue_14] at h
    cases h
  | succ F ih =>
    intro y3 σ4 j18 h hx
    rw [f_R_plainValue_14] at h
    refine go_iload_n (pc' := 15) dX6_plainValue_14 rfl rfl ?_
    refine go_aload_n (pc' := 16) dX6_plainValue_15 rfl rfl (Nat.le_of_ble_eq_true rfl) ?_
    refine go_getI (pc' := 19) dX6_plainValue_16 rfl rf_6_49 rfl ?_
    refine go_icmp_gt (t := 65) (pc' := 22) dX6_plainValue_19 rfl rfl (fun c17 => ?_) (fun c17 => ?_)
    · rw [if_pos (show (σ4 116 3) < y3 from c17)] at h
      cases h
      exact hx
    · rw [if_neg (show ¬ ((σ4 116 3) < y3) from c17)] at h
      refine go_iload_n (pc' := 23) dX6_plainValue_22 rfl rfl ?_
      refine go_iconst (pc' := 24) dX6_plainValue_23 rfl (r32_c rfl) ?_
      refine go_icmp_ge (t := 65) (pc' := 27) dX6_plainValue_24 rfl rfl (fun c16 => ?_) (fun c16 => ?_)
      · rw [if_pos (show 4 ≤ y3 from c16)] at h
        cases h
        exact hx
      · rw [if_neg (show ¬ (4 ≤ y3) from c16)] at h
        refine go_aload_n (pc' := 28) dX6_plainValue_27 rfl rfl (Nat.le_of_ble_eq_true rfl) ?_
        refine go_getR (k' := 4) (L0 := 0) (P' := 95) (pc' := 31) dX6_plainValue_28 rfl rf_6_41 rfl rfl (by omega) ?_
        refine go_aload_n (pc' := 32) dX6_plainValue_31 rfl rfl (Nat.le_of_ble_eq_true rfl) ?_
        refine go_getI (pc' := 35) dX6_plainValue_32 rfl rf_6_49 rfl ?_
        refine go_iload_n (pc' := 36) dX6_plainValue_35 rfl rfl ?_
        obtain ⟨v5, k6, h⟩ := bd h
        have k6 := l_MS_needs (d + 2) n e σ4 (σ4 116 3) y3 _ k6
        refine go_call (kc := 69) (Mc := mt69) (v := some (pvI v5)) (w' := (true, n, e, σ4)) (pc' := 39) (st' := [pvI v5]) [pvR 4 0 95, pvI (σ4 116 3), pvI y3] [] (Or.inl rfl) dX6_plainValue_36 rfl rm_6_171 mtE69 rfl rfl rfl (Nat.le_of_ble_eq_true rfl) (Or.inr ⟨_, _, 95, rfl, Or.inl rfl⟩) k6 rfl ?_
        obtain ⟨j7, k8, h⟩ := bd h
        have k8J : Go none (Ev (d + 4)) mt95 59 [some (pvR 6 0 116), some (pvI x1), some (pvI y3)] [] (true, n, e, j7) out := by
          obtain ⟨g14, h⟩ := gd h
          refine go_iinc (L' := [some (pvR 6 0 116), some (pvI x1), some (pvI (y3 + 1))]) (pc' := 62) dX6_plainValue_59 rfl rfl g14 rfl ?_
          refine go_goto (t := 14) dX6_plainValue_62 rfl ?_
          exact ih (y3 + 1) j7 _ h hx
        clear h
        have h := k8
        refine go_if_eq (t := 59) (pc' := 42) dX6_plainValue_39 rfl rfl (fun c15 => ?_) (fun c15 => ?_)
        · rw [if_pos (show v5 = 0 from c15)] at h
          cases h
          exact k8J
        · rw [if_neg (show ¬ (v5 = 0) from c15)] at h
          refine go_aload_n (pc' := 43) dX6_plainValue_42 rfl rfl (Nat.le_of_ble_eq_true rfl) ?_
          refine go_iload_n (pc' := 44) dX6_plainValue_43 rfl rfl ?_
          refine go_iload_n (pc' := 45) dX6_plainValue_44 rfl rfl ?_
          obtain ⟨v9, k10, h⟩ := bd h
          have k10 := l_R_gather (d + 0) n e σ4 x1 y3 _ k10
          refine go_call (kc := 98) (Mc := mt98) (v := none) (w' := (true, n, e, v9)) (pc' := 48) (st' := []) [pvR 6 0 116, pvI x1, pvI y3] [] (Or.inl rfl) dX6_plainValue_45 rfl rm_6_177 mtE98 rfl rfl rfl (Nat.le_of_ble_eq_true rfl) (Or.inr ⟨_, _, 116, rfl, Or.inl rfl⟩) k10 rfl ?_
          refine go_aload_n (pc' := 49) dX6_plainValue_48 rfl rfl (Nat.le_of_ble_eq_true rfl) ?_
          refine go_getR (k' := 13) (L0 := 4) (P' := 120) (pc' := 52) dX6_plainValue_49 rfl rf_6_22 rfl rfl (by omega) ?_
          refine go_iload_n (pc' := 53) dX6_plainValue_52 rfl rfl ?_
          refine go_aload_n (pc' := 54) dX6_plainValue_53 rfl rfl (Nat.le_of_ble_eq_true rfl) ?_
          refine go_iload_n (pc' := 55) dX6_plainValue_54 rfl rfl ?_
          obtain ⟨v11, k12, h⟩ := bd h
          have k12 := l_R_ofGathered (d + 0) n e v9 y3 _ k12
          refine go_call (kc := 99) (Mc := mt99) (v := some (pvL v11)) (w' := (true, n, e, v9)) (pc' := 58) (st' := [pvL v11, pvI y3, pvR 13 4 120]) [pvR 6 0 116, pvI y3] [pvI y3, pvR 13 4 120] (Or.inl rfl) dX6_plainValue_55 rfl rm_6_181 mtE99 rfl rfl rfl (Nat.le_of_ble_eq_true rfl) (Or.inr ⟨_, _, 116, rfl, Or.inl rfl⟩) k12 rfl ?_
          obtain ⟨g13, h⟩ := gd h
          refine go_last (pc' := 59) dX6_plainValue_58 rfl g13 ?_
          cases h
          exact k8J

set_option maxRecDepth 10000 in
theorem l_R_plainValue (d : Nat) (n e : Nat) (σ : Hp) (x1 : Int) (r : Int × Hp) (h : f_R_plainValue σ x1 = some r) : Ev (d + 5) 95 [pvR 6 0 116, pvI x1] (true, n, e, σ) (0, some (pvL r.1), true, n, e, r.2) := by
  unfold f_R_plainValue at h
  refine Ev.of mtE95 rfl rfl rfl rfl ?_
  show Go none (Ev (d + 4)) mt95 0 [some (pvR 6 0 116), some (pvI x1), none] [] (true, n, e, σ) (0, some (pvL r.1), true, n, e, r.2)
  refine go_aload_n (pc' := 1) dX6_plainValue_0 rfl rfl (Nat.le_of_ble_eq_true rfl) ?_
  refine go_iload_n (pc' := 2) dX6_plainValue_1 rfl rfl ?_
  obtain ⟨v1, k2, h⟩ := bd h
  have k2 := l_R_meansNothing (d + 1) n e σ x1 _ k2
  refine go_call (kc := 96) (Mc := mt96) (v := some (pvI v1)) (w' := (true, n, e, σ)) (pc' := 5) (st' := [pvI v1]) [pvR 6 0 116, pvI x1] [] (Or.inl rfl) dX6_plainValue_2 rfl rm_6_168 mtE96 rfl rfl rfl (Nat.le_of_ble_eq_true rfl) (Or.inr ⟨_, _, 116, rfl, Or.inl rfl⟩) k2 rfl ?_
  refine go_if_eq (t := 12) (pc' := 8) dX6_plainValue_5 rfl rfl (fun c27 => ?_) (fun c27 => ?_)
  · rw [if_pos (show v1 = 0 from c27)] at h
    refine go_iconst (pc' := 13) dX6_plainValue_12 rfl (r32_c rfl) ?_
    refine go_istore_n (L' := [some (pvR 6 0 116), some (pvI x1), some (pvI 0)]) (pc' := 14) dX6_plainValue_13 rfl (Nat.le_of_ble_eq_true rfl) rfl ?_
    obtain ⟨j19, k20, h⟩ := bd h
    refine l_R_plainValue_14 d n e x1 zFuel 0 σ _ k20 ?_
    refine go_aload_n (pc' := 66) dX6_plainValue_65 rfl rfl (Nat.le_of_ble_eq_true rfl) ?_
    refine go_getR (k' := 4) (L0 := 0) (P' := 95) (pc' := 69) dX6_plainValue_66 rfl rf_6_41 rfl rfl (by omega) ?_
    refine go_aload_n (pc' := 70) dX6_plainValue_69 rfl rfl (Nat.le_of_ble_eq_true rfl) ?_
    refine go_getI (pc' := 73) dX6_plainValue_70 rfl rf_6_49 rfl ?_
    obtain ⟨v21, k22, h⟩ := bd h
    have k22 := l_MS_has (d + 3) n e j19.2 (j19.2 116 3) _ k22
    refine go_call (kc := 38) (Mc := mt38) (v := some (pvI v21)) (w' := (true, n, e, j19.2)) (pc' := 76) (st' := [pvI v21]) [pvR 4 0 95, pvI (j19.2 116 3)] [] (Or.inl rfl) dX6_plainValue_73 rfl rm_6_184 mtE38 rfl rfl rfl (Nat.le_of_ble_eq_true rfl) (Or.inr ⟨_, _, 95, rfl, Or.inl rfl⟩) k22 rfl ?_
    obtain ⟨j23, k24, h⟩ := bd h
    have k24J : Go none (Ev (d + 4)) mt95 94 [some (pvR 6 0 116), some (pvI x1), some (pvI j19.1)] [pvL j23] (true, n, e, j19.2) (0, some (pvL r.1), true, n, e, r.2) := by
      cases h
      exact go_lret dX6_plainValue_94 rfl rfl
    clear h
    have h := k24
    refine go_if_eq (t := 91) (pc' := 79) dX6_plainValue_76 rfl rfl (fun c26 => ?_) (fun c26 => ?_)
    · rw [if_pos (show v21 = 0 from c26)] at h
      refine go_ldc2 (pc' := 94) dX6_plainValue_91 rfl (r64_c rfl) rc_6_66 ?_
      cases h
      exact k24J
    · rw [if_neg (show ¬ (v21 = 0) from c26)] at h
      refine go_aload_n (pc' := 80) dX6_plainValue_79 rfl rfl (Nat.le_of_ble_eq_true rfl) ?_
      refine go_getR (k' := 13) (L0 := 4) (P' := 120) (pc' := 83) dX6_plainValue_80 rfl rf_6_22 rfl rfl (by omega) ?_
      refine go_aload_n (pc' := 84) dX6_plainValue_83 rfl rfl (Nat.le_of_ble_eq_true rfl) ?_
      refine go_getI (pc' := 87) dX6_plainValue_84 rfl rf_6_49 rfl ?_
      obtain ⟨g25, h⟩ := gd h
      refine go_lald (pc' := 88) dX6_plainValue_87 rfl g25 ?_
      refine go_goto (t := 94) dX6_plainValue_88 rfl ?_
      cases h
      exact k24J
  · rw [if_neg (show ¬ (v1 = 0) from c27)] at h
    refine go_ldc2 (pc' := 11) dX6_plainValue_8 rfl (r64_c rfl) rc_6_66 ?_
    cases h
    exact go_lret dX6_plainValue_11 rfl rfl

set_option maxRecDepth 10000 in
theorem l_D_formulaOf (d : Nat) (n e : Nat) (σ : Hp) (p : Nat) (x1 : Int) (r : Int) (h : f_D_formulaOf σ p x1 = some r) : Ev (d + 2) 106 [pvR 0 0 p, pvI x1] (true, n, e, σ) (0, some (pvF r), true, n, e, σ) := by
  unfold f_D_formulaOf at h
  refine Ev.of mtE106 rfl rfl rfl rfl ?_
  show Go none (Ev (d + 1)) mt106 0 [some (pvR 0 0 p), some (pvI x1)] [] (true, n, e, σ) (0, some (pvF r), true, n, e, σ)
  refine go_aload_n (pc' := 1) dX0_formulaOf_0 rfl rfl (Nat.le_of_ble_eq_true rfl) ?_
  refine go_iload_n (pc' := 2) dX0_formulaOf_1 rfl rfl ?_
  obtain ⟨v1, k2, h⟩ := bd h
  have k2 := l_D_has (d + 0) n e σ p x1 _ k2
  refine go_call (kc := 16) (Mc := mt16) (v := some (pvI v1)) (w' := (true, n, e, σ)) (pc' := 5) (st' := [pvI v1]) [pvR 0 0 p, pvI x1] [] (Or.inl rfl) dX0_formulaOf_2 rfl rm_0_65 mtE16 rfl rfl rfl (Nat.le_of_ble_eq_true rfl) (Or.inr ⟨_, _, p, rfl, Or.inl rfl⟩) k2 rfl ?_
  obtain ⟨j3, k4, h⟩ := bd h
  have k4J : Go none (Ev (d + 1)) mt106 18 [some (pvR 0 0 p), some (pvI x1)] [pvF j3] (true, n, e, σ) (0, some (pvF r), true, n, e, σ) := by
    cases h
    exact go_aret dX0_formulaOf_18 (Nat.le_of_ble_eq_true rfl) (Nat.ne_of_beq_eq_false rfl) rfl rfl
  clear h
  have h := k4
  refine go_if_eq (t := 17) (pc' := 8) dX0_formulaOf_5 rfl rfl (fun c6 => ?_) (fun c6 => ?_)
  · rw [if_pos (show v1 = 0 from c6)] at h
    refine go_null (pc' := 18) dX0_formulaOf_17 rfl ?_
    cases h
    exact k4J
  · rw [if_neg (show ¬ (v1 = 0) from c6)] at h
    refine go_aload_n (pc' := 9) dX0_formulaOf_8 rfl rfl (Nat.le_of_ble_eq_true rfl) ?_
    refine go_getR (k' := 15) (L0 := 12) (P' := (p + 11)) (pc' := 12) dX0_formulaOf_9 rfl rf_0_44 rfl rfl (by omega) ?_
    refine go_iload_n (pc' := 13) dX0_formulaOf_12 rfl rfl ?_
    obtain ⟨g5, h⟩ := gd h
    refine go_fald (pc' := 14) dX0_formulaOf_13 rfl g5 ?_
    refine go_goto (t := 18) dX0_formulaOf_14 rfl ?_
    cases h
    exact k4J

set_option maxRecDepth 10000 in
theorem l_R_plus (d : Nat) (n e : Nat) (σ : Hp) (x1 : Int) (x2 : Int) (x3 : Int) (r : Int) (h : f_R_plus σ x1 x2 x3 = some r) : Ev (d + 2) 108 [pvL x1, pvL x2, pvI x3] (true, n, e, σ) (0, some (pvL r), true, n, e, σ) := by
  unfold f_R_plus at h
  refine Ev.of mtE108 rfl rfl rfl rfl ?_
  show Go none (Ev (d + 1)) mt108 0 [some (pvL x1), none, some (pvL x2), none, some (pvI x3)] [] (true, n, e, σ) (0, some (pvL r), true, n, e, σ)
  refine go_lload_n (pc' := 1) dX6_plus_0 rfl rfl ?_
  refine go_ldc2 (pc' := 4) dX6_plus_1 rfl (r64_c rfl) rc_6_66 ?_
  refine go_lcmp (pc' := 5) dX6_plus_4 rfl ?_
  refine go_if_ne (t := 20) (pc' := 8) dX6_plus_5 rfl rfl (fun c22 => ?_) (fun c22 => ?_)
  · rw [if_pos (show (lcm x1 (-9223372036854775808)) ≠ 0 from c22)] at h
    refine go_lload_n (pc' := 21) dX6_plus_20 rfl rfl ?_
    refine go_ldc2 (pc' := 24) dX6_plus_21 rfl (r64_c rfl) rc_6_66 ?_
    refine go_lcmp (pc' := 25) dX6_plus_24 rfl ?_
    obtain ⟨j1, k2, h⟩ := bd h
    have k2J : Go none (Ev (d + 1)) mt108 33 [some (pvL x1), none, some (pvL x2), none, some (pvI x3)] [pvL j1] (true, n, e, σ) (0, some (pvL r), true, n, e, σ) := by
      refine go_lload_n (pc' := 34) dX6_plus_33 rfl rfl ?_
      refine go_ldc2 (pc' := 37) dX6_plus_34 rfl (r64_c rfl) rc_6_66 ?_
      refine go_lcmp (pc' := 38) dX6_plus_37 rfl ?_
      obtain ⟨j3, k4, h⟩ := bd h
      have k4J : Go none (Ev (d + 1)) mt108 50 [some (pvL x1), none, some (pvL x2), none, some (pvI x3)] [pvL j3, pvL j1] (true, n, e, σ) (0, some (pvL r), true, n, e, σ) := by
        obtain ⟨g6, h⟩ := gd h
        refine go_ladd (pc' := 51) dX6_plus_50 rfl g6 ?_
        obtain ⟨v7, k8, h⟩ := bd h
        have k8 := l_C_bounded (d + 0) n e σ (j1 + j3) _ k8
        refine go_call (kc := 101) (Mc := mt101) (v := some (pvL v7)) (w' := (true, n, e, σ)) (pc' := 54) (st' := [pvL v7]) [pvL (j1 + j3)] [] (Or.inr (Or.inr (Or.inr (Or.inl rfl)))) dX6_plus_51 rfl rm_6_153 mtE101 rfl rfl rfl (Nat.le_of_ble_eq_true rfl) (Or.inl (by decide)) k8 rfl ?_
        cases h
        exact go_lret dX6_plus_54 rfl rfl
      clear h
      have h := k4
      refine go_if_ne (t := 45) (pc' := 41) dX6_plus_38 rfl rfl (fun c9 => ?_) (fun c9 => ?_)
      · rw [if_pos (show (lcm x2 (-9223372036854775808)) ≠ 0 from c9)] at h
        refine go_iload (pc' := 47) dX6_plus_45 rfl rfl ?_
        refine go_i2l (pc' := 48) dX6_plus_47 rfl ?_
        refine go_lload_n (pc' := 49) dX6_plus_48 rfl rfl ?_
        obtain ⟨g5, h⟩ := gd h
        refine go_lmul (pc' := 50) dX6_plus_49 rfl g5 ?_
        cases h
        exact k4J
      · rw [if_neg (show ¬ ((lcm x2 (-9223372036854775808)) ≠ 0) from c9)] at h
        refine go_lconst (z := 0) (pc' := 42) dX6_plus_41 rfl rfl ?_
        refine go_goto (t := 50) dX6_plus_42 rfl ?_
        cases h
        exact k4J
    clear h
    have h := k2
    refine go_if_ne (t := 32) (pc' := 28) dX6_plus_25 rfl rfl (fun c10 => ?_) (fun c10 => ?_)
    · rw [if_pos (show (lcm x1 (-9223372036854775808)) ≠ 0 from c10)] at h
      refine go_lload_n (pc' := 33) dX6_plus_32 rfl rfl ?_
      cases h
      exact k2J
    · rw [if_neg (show ¬ ((lcm x1 (-9223372036854775808)) ≠ 0) from c10)] at h
      refine go_lconst (z := 0) (pc' := 29) dX6_plus_28 rfl rfl ?_
      refine go_goto (t := 33) dX6_plus_29 rfl ?_
      cases h
      exact k2J
  · rw [if_neg (show ¬ ((lcm x1 (-9223372036854775808)) ≠ 0) from c22)] at h
    refine go_lload_n (pc' := 9) dX6_plus_8 rfl rfl ?_
    refine go_ldc2 (pc' := 12) dX6_plus_9 rfl (r64_c rfl) rc_6_66 ?_
    refine go_lcmp (pc' := 13) dX6_plus_12 rfl ?_
    refine go_if_ne (t := 20) (pc' := 16) dX6_plus_13 rfl rfl (fun c21 => ?_) (fun c21 => ?_)
    · rw [if_pos (show (lcm x2 (-9223372036854775808)) ≠ 0 from c21)] at h
      refine go_lload_n (pc' := 21) dX6_plus_20 rfl rfl ?_
      refine go_ldc2 (pc' := 24) dX6_plus_21 rfl (r64_c rfl) rc_6_66 ?_
      refine go_lcmp (pc' := 25) dX6_plus_24 rfl ?_
      obtain ⟨j11, k12, h⟩ := bd h
      have k12J : Go none (Ev (d + 1)) mt108 33 [some (pvL x1), none, some (pvL x2), none, some (pvI x3)] [pvL j11] (true, n, e, σ) (0, some (pvL r), true, n, e, σ) := by
        refine go_lload_n (pc' := 34) dX6_plus_33 rfl rfl ?_
        refine go_ldc2 (pc' := 37) dX6_plus_34 rfl (r64_c rfl) rc_6_66 ?_
        refine go_lcmp (pc' := 38) dX6_plus_37 rfl ?_
        obtain ⟨j13, k14, h⟩ := bd h
        have k14J : Go none (Ev (d + 1)) mt108 50 [some (pvL x1), none, some (pvL x2), none, some (pvI x3)] [pvL j13, pvL j11] (true, n, e, σ) (0, some (pvL r), true, n, e, σ) := by
          obtain ⟨g16, h⟩ := gd h
          refine go_ladd (pc' := 51) dX6_plus_50 rfl g16 ?_
          obtain ⟨v17, k18, h⟩ := bd h
          have k18 := l_C_bounded (d + 0) n e σ (j11 + j13) _ k18
          refine go_call (kc := 101) (Mc := mt101) (v := some (pvL v17)) (w' := (true, n, e, σ)) (pc' := 54) (st' := [pvL v17]) [pvL (j11 + j13)] [] (Or.inr (Or.inr (Or.inr (Or.inl rfl)))) dX6_plus_51 rfl rm_6_153 mtE101 rfl rfl rfl (Nat.le_of_ble_eq_true rfl) (Or.inl (by decide)) k18 rfl ?_
          cases h
          exact go_lret dX6_plus_54 rfl rfl
        clear h
        have h := k14
        refine go_if_ne (t := 45) (pc' := 41) dX6_plus_38 rfl rfl (fun c19 => ?_) (fun c19 => ?_)
        · rw [if_pos (show (lcm x2 (-9223372036854775808)) ≠ 0 from c19)] at h
          refine go_iload (pc' := 47) dX6_plus_45 rfl rfl ?_
          refine go_i2l (pc' := 48) dX6_plus_47 rfl ?_
          refine go_lload_n (pc' := 49) dX6_plus_48 rfl rfl ?_
          obtain ⟨g15, h⟩ := gd h
          refine go_lmul (pc' := 50) dX6_plus_49 rfl g15 ?_
          cases h
          exact k14J
        · rw [if_neg (show ¬ ((lcm x2 (-9223372036854775808)) ≠ 0) from c19)] at h
          refine go_lconst (z := 0) (pc' := 42) dX6_plus_41 rfl rfl ?_
          refine go_goto (t := 50) dX6_plus_42 rfl ?_
          cases h
          exact k14J
      clear h
      have h := k12
      refine go_if_ne (t := 32) (pc' := 28) dX6_plus_25 rfl rfl (fun c20 => ?_) (fun c20 => ?_)
      · rw [if_pos (show (lcm x1 (-9223372036854775808)) ≠ 0 from c20)] at h
        refine go_lload_n (pc' := 33) dX6_plus_32 rfl rfl ?_
        cases h
        exact k12J
      · rw [if_neg (show ¬ ((lcm x1 (-9223372036854775808)) ≠ 0) from c20)] at h
        refine go_lconst (z := 0) (pc' := 29) dX6_plus_28 rfl rfl ?_
        refine go_goto (t := 33) dX6_plus_29 rfl ?_
        cases h
        exact k12J
    · rw [if_neg (show ¬ ((lcm x2 (-9223372036854775808)) ≠ 0) from c21)] at h
      refine go_ldc2 (pc' := 19) dX6_plus_16 rfl (r64_c rfl) rc_6_66 ?_
      cases h
      exact go_lret dX6_plus_19 rfl rfl

set_option maxRecDepth 10000 in
theorem l_R_toDate_45 (V : Hp → Int → Int → Option (Int × Hp)) (u : Nat) (hV : ∀ (d n e : Nat) (σ : Hp) (x1 : Int) (x2 : Int) (r : Int × Hp), V σ x1 x2 = some r → Ev (d + u) 94 [pvR 6 0 116, pvI x1, pvI x2] (true, n, e, σ) (0, some (pvL r.1), true, n, e, r.2)) (d : Nat) (n : Nat) (e : Nat) (x1 : Int) (x2 : Int) (v1 : Int) (v5 : Int) {out : Out} : ∀ (F : Nat) (y7 : Int) (y8 : Int) (σ9 : Hp) (j27 : Int × Int × Hp), f_R_toDate_45 V x1 x2 v1 v5 F y7 y8 σ9 = some j27 → Go none (Ev (d + u + 2)) mt107 111 [some (pvR 6 0 116), some (pvI x1), some (pvI x2), some (pvI v1), some (pvI v5), some (pvL j27.1), none, some (pvI j27.2.1)] [] (true, n, e, j27.2.2) out → Go none (Ev (d + u + 2)) mt107 45 [some (pvR 6 0 116), some (pvI x1), some (pvI x2), some (pvI v1), some (pvI v5), some (pvL y7), none, some (pvI y8)] [] (true, n, e, σ9) out := by
  intro F
  induction F with
  | zero =>
    intro _ _ _ _ h
    intro _
    rw [f_R_toDate_45] at h
    cases h
  | succ F ih =>
    intro y7 y8 σ9 j27 h hx
    rw [f_R_toDate_45] at h
    refine go_iload (pc' := 47) dX6_toDate_45 rfl rfl ?_
    refine go_iload_n (pc' := 48) dX6_toDate_47 rfl rfl ?_
    refine go_icmp_gt (t := 111) (pc' := 51) dX6_toDate_48 rfl rfl (fun c26 => ?_) (fun c26 => ?_)
    · rw [if_pos (show v1 < y8 from c26)] at h
      cases h
      exact hx
    · rw [if_neg (show ¬ (v1 < y8) from c26)] at h
      refine go_aload_n (pc' := 52) dX6_toDate_51 rfl rfl (Nat.le_of_ble_eq_true rfl) ?_
      refine go_getR (k' := 7) (L0 := 0) (P' := 1) (pc' := 55) dX6_toDate_52 rfl rf_6_37 rfl rfl (by omega) ?_
      refine go_getR (k' := 0) (L0 := 0) (P' := 2) (pc' := 58) dX6_toDate_55 rfl rf_6_122 rfl rfl (by omega) ?_
      refine go_iload (pc' := 60) dX6_toDate_58 rfl rfl ?_
      obtain ⟨v10, k11, h⟩ := bd h
      have k11 := l_D_isPlain (d + u + 0) n e σ9 2 y8 _ k11
      refine go_call (kc := 18) (Mc := mt18) (v := some (pvI v10)) (w' := (true, n, e, σ9)) (pc' := 63) (st' := [pvI v10]) [pvR 0 0 2, pvI y8] [] (Or.inl rfl) dX6_toDate_60 rfl rm_6_126 mtE18 rfl rfl rfl (Nat.le_of_ble_eq_true rfl) (Or.inr ⟨_, _, 2, rfl, Or.inl rfl⟩) k11 rfl ?_
      obtain ⟨j12, k13, h⟩ := bd h
      have k13J : Go none (Ev (d + u + 2)) mt107 105 [some (pvR 6 0 116), some (pvI x1), some (pvI x2), some (pvI v1), some (pvI v5), some (pvL j12.1), none, some (pvI y8)] [] (true, n, e, j12.2) out := by
        obtain ⟨g24, h⟩ := gd h
        refine go_iinc (L' := [some (pvR 6 0 116), some (pvI x1), some (pvI x2), some (pvI v1), some (pvI v5), some (pvL j12.1), none, some (pvI (y8 + 1))]) (pc' := 108) dX6_toDate_105 rfl rfl g24 rfl ?_
        refine go_goto (t := 45) dX6_toDate_108 rfl ?_
        exact ih j12.1 (y8 + 1) j12.2 _ h hx
      clear h
      have h := k13
      refine go_if_eq (t := 105) (pc' := 66) dX6_toDate_63 rfl rfl (fun c25 => ?_) (fun c25 => ?_)
      · rw [if_pos (show v10 = 0 from c25)] at h
        cases h
        exact k13J
      · rw [if_neg (show ¬ (v10 = 0) from c25)] at h
        refine go_aload_n (pc' := 67) dX6_toDate_66 rfl rfl (Nat.le_of_ble_eq_true rfl) ?_
        refine go_getR (k' := 7) (L0 := 0) (P' := 1) (pc' := 70) dX6_toDate_67 rfl rf_6_37 rfl rfl (by omega) ?_
        refine go_getR (k' := 0) (L0 := 0) (P' := 2) (pc' := 73) dX6_toDate_70 rfl rf_6_122 rfl rfl (by omega) ?_
        refine go_iload (pc' := 75) dX6_toDate_73 rfl rfl ?_
        obtain ⟨v14, k15, h⟩ := bd h
        have k15 := l_D_parentOf (d + u + 0) n e σ9 2 y8 _ k15
        refine go_call (kc := 88) (Mc := mt88) (v := some (pvI v14)) (w' := (true, n, e, σ9)) (pc' := 78) (st' := [pvI v14]) [pvR 0 0 2, pvI y8] [] (Or.inl rfl) dX6_toDate_75 rfl rm_6_139 mtE88 rfl rfl rfl (Nat.le_of_ble_eq_true rfl) (Or.inr ⟨_, _, 2, rfl, Or.inl rfl⟩) k15 rfl ?_
        refine go_iload (pc' := 80) dX6_toDate_78 rfl rfl ?_
        refine go_icmp_ne (t := 105) (pc' := 83) dX6_toDate_80 rfl rfl (fun c23 => ?_) (fun c23 => ?_)
        · rw [if_pos (show v14 ≠ v5 from c23)] at h
          cases h
          exact k13J
        · rw [if_neg (show ¬ (v14 ≠ v5) from c23)] at h
          refine go_lload (pc' := 85) dX6_toDate_83 rfl rfl ?_
          refine go_aload_n (pc' := 86) dX6_toDate_85 rfl rfl (Nat.le_of_ble_eq_true rfl) ?_
          refine go_iload_n (pc' := 87) dX6_toDate_86 rfl rfl ?_
          refine go_iconst (pc' := 88) dX6_toDate_87 rfl (r32_c rfl) ?_
          refine go_iload (pc' := 90) dX6_toDate_88 rfl rfl ?_
          obtain ⟨v16, k17, h⟩ := bd h
          have k17 := l_C_withMember (d + u + 0) n e σ9 x1 0 y8 _ k17
          refine go_call (kc := 93) (Mc := mt93) (v := some (pvI v16)) (w' := (true, n, e, σ9)) (pc' := 93) (st' := [pvI v16, pvR 6 0 116, pvL y7]) [pvI x1, pvI 0, pvI y8] [pvR 6 0 116, pvL y7] (Or.inr (Or.inr (Or.inr (Or.inl rfl)))) dX6_toDate_90 rfl rm_6_105 mtE93 rfl rfl rfl (Nat.le_of_ble_eq_true rfl) (Or.inl (by decide)) k17 rfl ?_
          refine go_iload_n (pc' := 94) dX6_toDate_93 rfl rfl ?_
          refine go_iconst (pc' := 95) dX6_toDate_94 rfl (r32_c rfl) ?_
          obtain ⟨g18, h⟩ := gd h
          refine go_iadd (pc' := 96) dX6_toDate_95 rfl g18 ?_
          obtain ⟨v19, k20, h⟩ := bd h
          have k20 := (by have z := hV (d + 2) n e σ9 v16 (x2 + 1) _ k20; rwa [show d + 2 + u = d + u + 2 by omega] at z)
          refine go_call (kc := 94) (Mc := mt94) (v := some (pvL v19.1)) (w' := (true, n, e, v19.2)) (pc' := 99) (st' := [pvL v19.1, pvL y7]) [pvR 6 0 116, pvI v16, pvI (x2 + 1)] [pvL y7] (Or.inl rfl) dX6_toDate_96 rfl rm_6_62 mtE94 rfl rfl rfl (Nat.le_of_ble_eq_true rfl) (Or.inr ⟨_, _, 116, rfl, Or.inl rfl⟩) k20 rfl ?_
          refine go_iconst (pc' := 100) dX6_toDate_99 rfl (r32_c rfl) ?_
          obtain ⟨v21, k22, h⟩ := bd h
          have k22 := l_R_plus (d + u + 0) n e v19.2 y7 v19.1 1 _ k22
          refine go_call (kc := 108) (Mc := mt108) (v := some (pvL v21)) (w' := (true, n, e, v19.2)) (pc' := 103) (st' := [pvL v21]) [pvL y7, pvL v19.1, pvI 1] [] (Or.inr (Or.inl rfl)) dX6_toDate_100 rfl rm_6_142 mtE108 rfl rfl rfl (Nat.le_of_ble_eq_true rfl) (Or.inl (by decide)) k22 rfl ?_
          refine go_lstore (L' := [some (pvR 6 0 116), some (pvI x1), some (pvI x2), some (pvI v1), some (pvI v5), some (pvL v21), none, some (pvI y8)]) (pc' := 105) dX6_toDate_103 rfl (Nat.le_of_ble_eq_true rfl) rfl ?_
          cases h
          exact k13J

set_option maxRecDepth 10000 in
theorem l_R_toDate (V : Hp → Int → Int → Option (Int × Hp)) (u : Nat) (hV : ∀ (d n e : Nat) (σ : Hp) (x1 : Int) (x2 : Int) (r : Int × Hp), V σ x1 x2 = some r → Ev (d + u) 94 [pvR 6 0 116, pvI x1, pvI x2] (true, n, e, σ) (0, some (pvL r.1), true, n, e, r.2)) (d : Nat) (n e : Nat) (σ : Hp) (x1 : Int) (x2 : Int) (r : Int × Hp) (h : f_R_toDate V σ x1 x2 = some r) : Ev (d + u + 3) 107 [pvR 6 0 116, pvI x1, pvI x2] (true, n, e, σ) (0, some (pvL r.1), true, n, e, r.2) := by
  unfold f_R_toDate at h
  refine Ev.of mtE107 rfl rfl rfl rfl ?_
  show Go none (Ev (d + u + 2)) mt107 0 [some (pvR 6 0 116), some (pvI x1), some (pvI x2), none, none, none, none, none] [] (true, n, e, σ) (0, some (pvL r.1), true, n, e, r.2)
  refine go_iload_n (pc' := 1) dX6_toDate_0 rfl rfl ?_
  refine go_iconst (pc' := 2) dX6_toDate_1 rfl (r32_c rfl) ?_
  obtain ⟨v1, k2, h⟩ := bd h
  have k2 := l_C_memberOf (d + u + 1) n e σ x1 0 _ k2
  refine go_call (kc := 61) (Mc := mt61) (v := some (pvI v1)) (w' := (true, n, e, σ)) (pc' := 5) (st' := [pvI v1]) [pvI x1, pvI 0] [] (Or.inr (Or.inr (Or.inr (Or.inl rfl)))) dX6_toDate_2 rfl rm_6_84 mtE61 rfl rfl rfl (Nat.le_of_ble_eq_true rfl) (Or.inl (by decide)) k2 rfl ?_
  refine go_istore_n (L' := [some (pvR 6 0 116), some (pvI x1), some (pvI x2), some (pvI v1), none, none, none, none]) (pc' := 6) dX6_toDate_5 rfl (Nat.le_of_ble_eq_true rfl) rfl ?_
  refine go_aload_n (pc' := 7) dX6_toDate_6 rfl rfl (Nat.le_of_ble_eq_true rfl) ?_
  refine go_getR (k' := 7) (L0 := 0) (P' := 1) (pc' := 10) dX6_toDate_7 rfl rf_6_37 rfl rfl (by omega) ?_
  refine go_getR (k' := 0) (L0 := 0) (P' := 2) (pc' := 13) dX6_toDate_10 rfl rf_6_122 rfl rfl (by omega) ?_
  refine go_iload_n (pc' := 14) dX6_toDate_13 rfl rfl ?_
  obtain ⟨v3, k4, h⟩ := bd h
  have k4 := l_D_isPlain (d + u + 0) n e σ 2 v1 _ k4
  refine go_call (kc := 18) (Mc := mt18) (v := some (pvI v3)) (w' := (true, n, e, σ)) (pc' := 17) (st' := [pvI v3]) [pvR 0 0 2, pvI v1] [] (Or.inl rfl) dX6_toDate_14 rfl rm_6_126 mtE18 rfl rfl rfl (Nat.le_of_ble_eq_true rfl) (Or.inr ⟨_, _, 2, rfl, Or.inl rfl⟩) k4 rfl ?_
  refine go_if_ne (t := 24) (pc' := 20) dX6_toDate_17 rfl rfl (fun c30 => ?_) (fun c30 => ?_)
  · rw [if_pos (show v3 ≠ 0 from c30)] at h
    refine go_aload_n (pc' := 25) dX6_toDate_24 rfl rfl (Nat.le_of_ble_eq_true rfl) ?_
    refine go_getR (k' := 7) (L0 := 0) (P' := 1) (pc' := 28) dX6_toDate_25 rfl rf_6_37 rfl rfl (by omega) ?_
    refine go_getR (k' := 0) (L0 := 0) (P' := 2) (pc' := 31) dX6_toDate_28 rfl rf_6_122 rfl rfl (by omega) ?_
    refine go_iload_n (pc' := 32) dX6_toDate_31 rfl rfl ?_
    obtain ⟨v5, k6, h⟩ := bd h
    have k6 := l_D_parentOf (d + u + 0) n e σ 2 v1 _ k6
    refine go_call (kc := 88) (Mc := mt88) (v := some (pvI v5)) (w' := (true, n, e, σ)) (pc' := 35) (st' := [pvI v5]) [pvR 0 0 2, pvI v1] [] (Or.inl rfl) dX6_toDate_32 rfl rm_6_139 mtE88 rfl rfl rfl (Nat.le_of_ble_eq_true rfl) (Or.inr ⟨_, _, 2, rfl, Or.inl rfl⟩) k6 rfl ?_
    refine go_istore (L' := [some (pvR 6 0 116), some (pvI x1), some (pvI x2), some (pvI v1), some (pvI v5), none, none, none]) (pc' := 37) dX6_toDate_35 rfl (Nat.le_of_ble_eq_true rfl) rfl ?_
    refine go_ldc2 (pc' := 40) dX6_toDate_37 rfl (r64_c rfl) rc_6_66 ?_
    refine go_lstore (L' := [some (pvR 6 0 116), some (pvI x1), some (pvI x2), some (pvI v1), some (pvI v5), some (pvL (-9223372036854775808)), none, none]) (pc' := 42) dX6_toDate_40 rfl (Nat.le_of_ble_eq_true rfl) rfl ?_
    refine go_iconst (pc' := 43) dX6_toDate_42 rfl (r32_c rfl) ?_
    refine go_istore (L' := [some (pvR 6 0 116), some (pvI x1), some (pvI x2), some (pvI v1), some (pvI v5), some (pvL (-9223372036854775808)), none, some (pvI 0)]) (pc' := 45) dX6_toDate_43 rfl (Nat.le_of_ble_eq_true rfl) rfl ?_
    obtain ⟨j28, k29, h⟩ := bd h
    refine l_R_toDate_45 V u hV d n e x1 x2 v1 v5 zFuel (-9223372036854775808) 0 σ _ k29 ?_
    refine go_lload (pc' := 113) dX6_toDate_111 rfl rfl ?_
    cases h
    exact go_lret dX6_toDate_113 rfl rfl
  · rw [if_neg (show ¬ (v3 ≠ 0) from c30)] at h
    refine go_ldc2 (pc' := 23) dX6_toDate_20 rfl (r64_c rfl) rc_6_66 ?_
    cases h
    exact go_lret dX6_toDate_23 rfl rfl

set_option maxRecDepth 10000 in
theorem l_TO_ahead_12 (d : Nat) (n : Nat) (e : Nat) (σ : Hp) (x1 : Int) (x2 : Int) (p3 : Nat) : ∀ (F : Nat) (y4 : Int) (y5 : Int) (r : Int), f_TO_ahead_12 σ x1 p3 F y4 y5 = some r → Go none (Ev (d + 2)) mt110 12 [some (pvR 9 0 92), some (pvI x1), some (pvI x2), some (pvR 0 0 p3), some (pvI y4), some (pvI y5)] [] (true, n, e, σ) (0, some (pvI r), true, n, e, σ) := by
  intro F
  induction F with
  | zero =>
    intro _ _ _ h
    rw [f_TO_ahead_12] at h
    cases h
  | succ F ih =>
    intro y4 y5 r h
    rw [f_TO_ahead_12] at h
    refine go_iload (pc' := 14) dX9_ahead_12 rfl rfl ?_
    refine go_if_lt (t := 67) (pc' := 17) dX9_ahead_14 rfl rfl (fun c18 => ?_) (fun c18 => ?_)
    · rw [if_pos (show y5 < 0 from c18)] at h
      refine go_iconst (pc' := 68) dX9_ahead_67 rfl (r32_c rfl) ?_
      cases h
      exact go_iret dX9_ahead_68 rfl rfl
    · rw [if_neg (show ¬ (y5 < 0) from c18)] at h
      refine go_iload (pc' := 19) dX9_ahead_17 rfl rfl ?_
      refine go_aload_n (pc' := 20) dX9_ahead_19 rfl rfl (Nat.le_of_ble_eq_true rfl) ?_
      refine go_getI (pc' := 23) dX9_ahead_20 rfl rf_9_9 rfl ?_
      refine go_icmp_ge (t := 67) (pc' := 26) dX9_ahead_23 rfl rfl (fun c17 => ?_) (fun c17 => ?_)
      · rw [if_pos (show (σ 92 0) ≤ y5 from c17)] at h
        refine go_iconst (pc' := 68) dX9_ahead_67 rfl (r32_c rfl) ?_
        cases h
        exact go_iret dX9_ahead_68 rfl rfl
      · rw [if_neg (show ¬ ((σ 92 0) ≤ y5) from c17)] at h
        refine go_aload_n (pc' := 27) dX9_ahead_26 rfl rfl (Nat.le_of_ble_eq_true rfl) ?_
        refine go_aload_n (pc' := 28) dX9_ahead_27 rfl rfl (Nat.le_of_ble_eq_true rfl) ?_
        refine go_getR (k' := 12) (L0 := 12) (P' := 93) (pc' := 31) dX9_ahead_28 rfl rf_9_15 rfl rfl (by omega) ?_
        refine go_iload (pc' := 33) dX9_ahead_31 rfl rfl ?_
        obtain ⟨g6, h⟩ := gd h
        refine go_iald (pc' := 34) dX9_ahead_33 rfl g6 ?_
        obtain ⟨v7, k8, h⟩ := bd h
        have k8 := l_D_depthOf (d + 0) n e σ p3 (σ 93 y5) _ k8
        refine go_call (kc := 24) (Mc := mt24) (v := some (pvI v7)) (w' := (true, n, e, σ)) (pc' := 37) (st' := [pvI v7]) [pvR 0 0 p3, pvI (σ 93 y5)] [] (Or.inl rfl) dX9_ahead_34 rfl rm_9_32 mtE24 rfl rfl rfl (Nat.le_of_ble_eq_true rfl) (Or.inr ⟨_, _, p3, rfl, Or.inl rfl⟩) k8 rfl ?_
        refine go_aload_n (pc' := 38) dX9_ahead_37 rfl rfl (Nat.le_of_ble_eq_true rfl) ?_
        refine go_iload_n (pc' := 39) dX9_ahead_38 rfl rfl ?_
        obtain ⟨v9, k10, h⟩ := bd h
        have k10 := l_D_depthOf (d + 0) n e σ p3 x1 _ k10
        refine go_call (kc := 24) (Mc := mt24) (v := some (pvI v9)) (w' := (true, n, e, σ)) (pc' := 42) (st' := [pvI v9, pvI v7]) [pvR 0 0 p3, pvI x1] [pvI v7] (Or.inl rfl) dX9_ahead_39 rfl rm_9_32 mtE24 rfl rfl rfl (Nat.le_of_ble_eq_true rfl) (Or.inr ⟨_, _, p3, rfl, Or.inl rfl⟩) k10 rfl ?_
        refine go_icmp_ne (t := 61) (pc' := 45) dX9_ahead_42 rfl rfl (fun c16 => ?_) (fun c16 => ?_)
        · rw [if_pos (show v7 ≠ v9 from c16)] at h
          obtain ⟨g11, h⟩ := gd h
          refine go_iinc (L' := [some (pvR 9 0 92), some (pvI x1), some (pvI x2), some (pvR 0 0 p3), some (pvI y4), some (pvI (y5 + (-1)))]) (pc' := 64) dX9_ahead_61 rfl rfl g11 rfl ?_
          refine go_goto (t := 12) dX9_ahead_64 rfl ?_
          exact ih y4 (y5 + (-1)) _ h
        · rw [if_neg (show ¬ (v7 ≠ v9) from c16)] at h
          obtain ⟨g12, h⟩ := gd h
          refine go_iinc (L' := [some (pvR 9 0 92), some (pvI x1), some (pvI x2), some (pvR 0 0 p3), some (pvI (y4 + (-1))), some (pvI y5)]) (pc' := 48) dX9_ahead_45 rfl rfl g12 rfl ?_
          refine go_iload (pc' := 50) dX9_ahead_48 rfl rfl ?_
          refine go_if_ne (t := 61) (pc' := 53) dX9_ahead_50 rfl rfl (fun c15 => ?_) (fun c15 => ?_)
          · rw [if_pos (show (y4 + (-1)) ≠ 0 from c15)] at h
            obtain ⟨g13, h⟩ := gd h
            refine go_iinc (L' := [some (pvR 9 0 92), some (pvI x1), some (pvI x2), some (pvR 0 0 p3), some (pvI (y4 + (-1))), some (pvI (y5 + (-1)))]) (pc' := 64) dX9_ahead_61 rfl rfl g13 rfl ?_
            refine go_goto (t := 12) dX9_ahead_64 rfl ?_
            exact ih (y4 + (-1)) (y5 + (-1)) _ h
          · rw [if_neg (show ¬ ((y4 + (-1)) ≠ 0) from c15)] at h
            refine go_aload_n (pc' := 54) dX9_ahead_53 rfl rfl (Nat.le_of_ble_eq_true rfl) ?_
            refine go_getR (k' := 12) (L0 := 12) (P' := 93) (pc' := 57) dX9_ahead_54 rfl rf_9_15 rfl rfl (by omega) ?_
            refine go_iload (pc' := 59) dX9_ahead_57 rfl rfl ?_
            obtain ⟨g14, h⟩ := gd h
            refine go_iald (pc' := 60) dX9_ahead_59 rfl g14 ?_
            cases h
            exact go_iret dX9_ahead_60 rfl rfl

set_option maxRecDepth 10000 in
theorem l_TO_ahead (d : Nat) (n e : Nat) (σ : Hp) (x1 : Int) (x2 : Int) (p3 : Nat) (r : Int) (h : f_TO_ahead σ x1 x2 p3 = some r) : Ev (d + 3) 110 [pvR 9 0 92, pvI x1, pvI x2, pvR 0 0 p3] (true, n, e, σ) (0, some (pvI r), true, n, e, σ) := by
  unfold f_TO_ahead at h
  refine Ev.of mtE110 rfl rfl rfl rfl ?_
  show Go none (Ev (d + 2)) mt110 0 [some (pvR 9 0 92), some (pvI x1), some (pvI x2), some (pvR 0 0 p3), none, none] [] (true, n, e, σ) (0, some (pvI r), true, n, e, σ)
  refine go_iload_n (pc' := 1) dX9_ahead_0 rfl rfl ?_
  refine go_istore (L' := [some (pvR 9 0 92), some (pvI x1), some (pvI x2), some (pvR 0 0 p3), some (pvI x2), none]) (pc' := 3) dX9_ahead_1 rfl (Nat.le_of_ble_eq_true rfl) rfl ?_
  refine go_aload_n (pc' := 4) dX9_ahead_3 rfl rfl (Nat.le_of_ble_eq_true rfl) ?_
  refine go_iload_n (pc' := 5) dX9_ahead_4 rfl rfl ?_
  obtain ⟨v1, k2, h⟩ := bd h
  have k2 := l_TO_placeOf (d + 1) n e σ x1 _ k2
  refine go_call (kc := 23) (Mc := mt23) (v := some (pvI v1)) (w' := (true, n, e, σ)) (pc' := 8) (st' := [pvI v1]) [pvR 9 0 92, pvI x1] [] (Or.inl rfl) dX9_ahead_5 rfl rm_9_28 mtE23 rfl rfl rfl (Nat.le_of_ble_eq_true rfl) (Or.inr ⟨_, _, 92, rfl, Or.inl rfl⟩) k2 rfl ?_
  refine go_iconst (pc' := 9) dX9_ahead_8 rfl (r32_c rfl) ?_
  obtain ⟨g3, h⟩ := gd h
  refine go_isub (pc' := 10) dX9_ahead_9 rfl g3 ?_
  refine go_istore (L' := [some (pvR 9 0 92), some (pvI x1), some (pvI x2), some (pvR 0 0 p3), some (pvI x2), some (pvI (v1 - 1))]) (pc' := 12) dX9_ahead_10 rfl (Nat.le_of_ble_eq_true rfl) rfl ?_
  exact l_TO_ahead_12 d n e σ x1 x2 p3 zFuel x2 (v1 - 1) _ h

set_option maxRecDepth 10000 in
theorem l_R_back (V : Hp → Int → Int → Option (Int × Hp)) (u : Nat) (hV : ∀ (d n e : Nat) (σ : Hp) (x1 : Int) (x2 : Int) (r : Int × Hp), V σ x1 x2 = some r → Ev (d + u) 94 [pvR 6 0 116, pvI x1, pvI x2] (true, n, e, σ) (0, some (pvL r.1), true, n, e, r.2)) (d : Nat) (n e : Nat) (σ : Hp) (x1 : Int) (x2 : Int) (x3 : Int) (r : Int × Hp) (h : f_R_back V σ x1 x2 x3 = some r) : Ev (d + u + 4) 109 [pvR 6 0 116, pvI x1, pvI x2, pvI x3] (true, n, e, σ) (0, some (pvL r.1), true, n, e, r.2) := by
  unfold f_R_back at h
  refine Ev.of mtE109 rfl rfl rfl rfl ?_
  show Go none (Ev (d + u + 3)) mt109 0 [some (pvR 6 0 116), some (pvI x1), some (pvI x2), some (pvI x3), none, none] [] (true, n, e, σ) (0, some (pvL r.1), true, n, e, r.2)
  refine go_iload_n (pc' := 1) dX6_back_0 rfl rfl ?_
  refine go_if_ne (t := 13) (pc' := 4) dX6_back_1 rfl rfl (fun c21 => ?_) (fun c21 => ?_)
  · rw [if_pos (show x2 ≠ 0 from c21)] at h
    refine go_iload_n (pc' := 14) dX6_back_13 rfl rfl ?_
    refine go_iconst (pc' := 15) dX6_back_14 rfl (r32_c rfl) ?_
    obtain ⟨v1, k2, h⟩ := bd h
    have k2 := l_C_memberOf (d + u + 2) n e σ x1 0 _ k2
    refine go_call (kc := 61) (Mc := mt61) (v := some (pvI v1)) (w' := (true, n, e, σ)) (pc' := 18) (st' := [pvI v1]) [pvI x1, pvI 0] [] (Or.inr (Or.inr (Or.inr (Or.inl rfl)))) dX6_back_15 rfl rm_6_84 mtE61 rfl rfl rfl (Nat.le_of_ble_eq_true rfl) (Or.inl (by decide)) k2 rfl ?_
    refine go_istore (L' := [some (pvR 6 0 116), some (pvI x1), some (pvI x2), some (pvI x3), some (pvI v1), none]) (pc' := 20) dX6_back_18 rfl (Nat.le_of_ble_eq_true rfl) rfl ?_
    refine go_aload_n (pc' := 21) dX6_back_20 rfl rfl (Nat.le_of_ble_eq_true rfl) ?_
    refine go_getR (k' := 7) (L0 := 0) (P' := 1) (pc' := 24) dX6_back_21 rfl rf_6_37 rfl rfl (by omega) ?_
    refine go_getR (k' := 0) (L0 := 0) (P' := 2) (pc' := 27) dX6_back_24 rfl rf_6_122 rfl rfl (by omega) ?_
    refine go_iload (pc' := 29) dX6_back_27 rfl rfl ?_
    obtain ⟨v3, k4, h⟩ := bd h
    have k4 := l_D_isPlain (d + u + 1) n e σ 2 v1 _ k4
    refine go_call (kc := 18) (Mc := mt18) (v := some (pvI v3)) (w' := (true, n, e, σ)) (pc' := 32) (st' := [pvI v3]) [pvR 0 0 2, pvI v1] [] (Or.inl rfl) dX6_back_29 rfl rm_6_126 mtE18 rfl rfl rfl (Nat.le_of_ble_eq_true rfl) (Or.inr ⟨_, _, 2, rfl, Or.inl rfl⟩) k4 rfl ?_
    obtain ⟨j5, k6, h⟩ := bd h
    have k6J : Go none (Ev (d + u + 3)) mt109 59 [some (pvR 6 0 116), some (pvI x1), some (pvI x2), some (pvI x3), some (pvI v1), none] [pvI j5] (true, n, e, σ) (0, some (pvL r.1), true, n, e, r.2) := by
      refine go_istore (L' := [some (pvR 6 0 116), some (pvI x1), some (pvI x2), some (pvI x3), some (pvI v1), some (pvI j5)]) (pc' := 61) dX6_back_59 rfl (Nat.le_of_ble_eq_true rfl) rfl ?_
      refine go_iload (pc' := 63) dX6_back_61 rfl rfl ?_
      refine go_iconst (pc' := 64) dX6_back_63 rfl (r32_c rfl) ?_
      obtain ⟨j9, k10, h⟩ := bd h
      have k10J : Go none (Ev (d + u + 3)) mt109 87 [some (pvR 6 0 116), some (pvI x1), some (pvI x2), some (pvI x3), some (pvI v1), some (pvI j5)] [pvL j9.1] (true, n, e, j9.2) (0, some (pvL r.1), true, n, e, r.2) := by
        cases h
        exact go_lret dX6_back_87 rfl rfl
      clear h
      have h := k10
      refine go_icmp_ne (t := 73) (pc' := 67) dX6_back_64 rfl rfl (fun c16 => ?_) (fun c16 => ?_)
      · rw [if_pos (show j5 ≠ (-1) from c16)] at h
        refine go_aload_n (pc' := 74) dX6_back_73 rfl rfl (Nat.le_of_ble_eq_true rfl) ?_
        refine go_iload_n (pc' := 75) dX6_back_74 rfl rfl ?_
        refine go_iconst (pc' := 76) dX6_back_75 rfl (r32_c rfl) ?_
        refine go_iload (pc' := 78) dX6_back_76 rfl rfl ?_
        obtain ⟨v11, k12, h⟩ := bd h
        have k12 := l_C_withMember (d + u + 1) n e σ x1 0 j5 _ k12
        refine go_call (kc := 93) (Mc := mt93) (v := some (pvI v11)) (w' := (true, n, e, σ)) (pc' := 81) (st' := [pvI v11, pvR 6 0 116]) [pvI x1, pvI 0, pvI j5] [pvR 6 0 116] (Or.inr (Or.inr (Or.inr (Or.inl rfl)))) dX6_back_78 rfl rm_6_105 mtE93 rfl rfl rfl (Nat.le_of_ble_eq_true rfl) (Or.inl (by decide)) k12 rfl ?_
        refine go_iload_n (pc' := 82) dX6_back_81 rfl rfl ?_
        refine go_iconst (pc' := 83) dX6_back_82 rfl (r32_c rfl) ?_
        obtain ⟨g13, h⟩ := gd h
        refine go_iadd (pc' := 84) dX6_back_83 rfl g13 ?_
        obtain ⟨v14, k15, h⟩ := bd h
        have k15 := (by have z := hV (d + 3) n e σ v11 (x3 + 1) _ k15; rwa [show d + 3 + u = d + u + 3 by omega] at z)
        refine go_call (kc := 94) (Mc := mt94) (v := some (pvL v14.1)) (w' := (true, n, e, v14.2)) (pc' := 87) (st' := [pvL v14.1]) [pvR 6 0 116, pvI v11, pvI (x3 + 1)] [] (Or.inl rfl) dX6_back_84 rfl rm_6_62 mtE94 rfl rfl rfl (Nat.le_of_ble_eq_true rfl) (Or.inr ⟨_, _, 116, rfl, Or.inl rfl⟩) k15 rfl ?_
        cases h
        exact k10J
      · rw [if_neg (show ¬ (j5 ≠ (-1)) from c16)] at h
        refine go_ldc2 (pc' := 70) dX6_back_67 rfl (r64_c rfl) rc_6_66 ?_
        refine go_goto (t := 87) dX6_back_70 rfl ?_
        cases h
        exact k10J
    clear h
    have h := k6
    refine go_if_eq (t := 58) (pc' := 35) dX6_back_32 rfl rfl (fun c17 => ?_) (fun c17 => ?_)
    · rw [if_pos (show v3 = 0 from c17)] at h
      refine go_iconst (pc' := 59) dX6_back_58 rfl (r32_c rfl) ?_
      cases h
      exact k6J
    · rw [if_neg (show ¬ (v3 = 0) from c17)] at h
      refine go_aload_n (pc' := 36) dX6_back_35 rfl rfl (Nat.le_of_ble_eq_true rfl) ?_
      refine go_getR (k' := 7) (L0 := 0) (P' := 1) (pc' := 39) dX6_back_36 rfl rf_6_37 rfl rfl (by omega) ?_
      refine go_getR (k' := 9) (L0 := 0) (P' := 92) (pc' := 42) dX6_back_39 rfl rf_6_129 rfl rfl (by omega) ?_
      refine go_iload (pc' := 44) dX6_back_42 rfl rfl ?_
      refine go_iload_n (pc' := 45) dX6_back_44 rfl rfl ?_
      refine go_aload_n (pc' := 46) dX6_back_45 rfl rfl (Nat.le_of_ble_eq_true rfl) ?_
      refine go_getR (k' := 7) (L0 := 0) (P' := 1) (pc' := 49) dX6_back_46 rfl rf_6_37 rfl rfl (by omega) ?_
      refine go_getR (k' := 0) (L0 := 0) (P' := 2) (pc' := 52) dX6_back_49 rfl rf_6_122 rfl rfl (by omega) ?_
      obtain ⟨v7, k8, h⟩ := bd h
      have k8 := l_TO_ahead (d + u + 0) n e σ v1 x2 2 _ k8
      refine go_call (kc := 110) (Mc := mt110) (v := some (pvI v7)) (w' := (true, n, e, σ)) (pc' := 55) (st' := [pvI v7]) [pvR 9 0 92, pvI v1, pvI x2, pvR 0 0 2] [] (Or.inl rfl) dX6_back_52 rfl rm_6_133 mtE110 rfl rfl rfl (Nat.le_of_ble_eq_true rfl) (Or.inr ⟨_, _, 92, rfl, Or.inl rfl⟩) k8 rfl ?_
      refine go_goto (t := 59) dX6_back_55 rfl ?_
      cases h
      exact k6J
  · rw [if_neg (show ¬ (x2 ≠ 0) from c21)] at h
    refine go_aload_n (pc' := 5) dX6_back_4 rfl rfl (Nat.le_of_ble_eq_true rfl) ?_
    refine go_iload_n (pc' := 6) dX6_back_5 rfl rfl ?_
    refine go_iload_n (pc' := 7) dX6_back_6 rfl rfl ?_
    refine go_iconst (pc' := 8) dX6_back_7 rfl (r32_c rfl) ?_
    obtain ⟨g18, h⟩ := gd h
    refine go_iadd (pc' := 9) dX6_back_8 rfl g18 ?_
    obtain ⟨v19, k20, h⟩ := bd h
    have k20 := (by have z := hV (d + 3) n e σ x1 (x3 + 1) _ k20; rwa [show d + 3 + u = d + u + 3 by omega] at z)
    refine go_call (kc := 94) (Mc := mt94) (v := some (pvL v19.1)) (w' := (true, n, e, v19.2)) (pc' := 12) (st' := [pvL v19.1]) [pvR 6 0 116, pvI x1, pvI (x3 + 1)] [] (Or.inl rfl) dX6_back_9 rfl rm_6_62 mtE94 rfl rfl rfl (Nat.le_of_ble_eq_true rfl) (Or.inr ⟨_, _, 116, rfl, Or.inl rfl⟩) k20 rfl ?_
    cases h
    exact go_lret dX6_back_12 rfl rfl

set_option maxRecDepth 10000 in
theorem l_R_product (d : Nat) (n e : Nat) (σ : Hp) (x1 : Int) (x2 : Int) (r : Int) (h : f_R_product σ x1 x2 = some r) : Ev (d + 1) 112 [pvL x1, pvL x2] (true, n, e, σ) (0, some (pvL r), true, n, e, σ) := by
  unfold f_R_product at h
  refine Ev.of mtE112 rfl rfl rfl rfl ?_
  show Go none (Ev (d + 0)) mt112 0 [some (pvL x1), none, some (pvL x2), none] [] (true, n, e, σ) (0, some (pvL r), true, n, e, σ)
  refine go_lload_n (pc' := 1) dX6_product_0 rfl rfl ?_
  refine go_ldc2 (pc' := 4) dX6_product_1 rfl (r64_c rfl) rc_6_66 ?_
  refine go_lcmp (pc' := 5) dX6_product_4 rfl ?_
  refine go_if_eq (t := 16) (pc' := 8) dX6_product_5 rfl rfl (fun c18 => ?_) (fun c18 => ?_)
  · rw [if_pos (show (lcm x1 (-9223372036854775808)) = 0 from c18)] at h
    refine go_ldc2 (pc' := 19) dX6_product_16 rfl (r64_c rfl) rc_6_66 ?_
    cases h
    exact go_lret dX6_product_19 rfl rfl
  · rw [if_neg (show ¬ ((lcm x1 (-9223372036854775808)) = 0) from c18)] at h
    refine go_lload_n (pc' := 9) dX6_product_8 rfl rfl ?_
    refine go_ldc2 (pc' := 12) dX6_product_9 rfl (r64_c rfl) rc_6_66 ?_
    refine go_lcmp (pc' := 13) dX6_product_12 rfl ?_
    refine go_if_ne (t := 20) (pc' := 16) dX6_product_13 rfl rfl (fun c17 => ?_) (fun c17 => ?_)
    · rw [if_pos (show (lcm x2 (-9223372036854775808)) ≠ 0 from c17)] at h
      refine go_lload_n (pc' := 21) dX6_product_20 rfl rfl ?_
      refine go_lconst (z := 0) (pc' := 22) dX6_product_21 rfl rfl ?_
      refine go_lcmp (pc' := 23) dX6_product_22 rfl ?_
      refine go_if_eq (t := 32) (pc' := 26) dX6_product_23 rfl rfl (fun c16 => ?_) (fun c16 => ?_)
      · rw [if_pos (show (lcm x1 0) = 0 from c16)] at h
        refine go_lconst (z := 0) (pc' := 33) dX6_product_32 rfl rfl ?_
        cases h
        exact go_lret dX6_product_33 rfl rfl
      · rw [if_neg (show ¬ ((lcm x1 0) = 0) from c16)] at h
        refine go_lload_n (pc' := 27) dX6_product_26 rfl rfl ?_
        refine go_lconst (z := 0) (pc' := 28) dX6_product_27 rfl rfl ?_
        refine go_lcmp (pc' := 29) dX6_product_28 rfl ?_
        refine go_if_ne (t := 34) (pc' := 32) dX6_product_29 rfl rfl (fun c15 => ?_) (fun c15 => ?_)
        · rw [if_pos (show (lcm x2 0) ≠ 0 from c15)] at h
          refine go_lload_n (pc' := 35) dX6_product_34 rfl rfl ?_
          obtain ⟨g1, h⟩ := gd h
          refine go_labs (pc' := 38) dX6_product_35 rfl rm_6_157 (Nat.le_of_ble_eq_true rfl) g1 ?_
          refine go_ldc2 (pc' := 41) dX6_product_38 rfl (r64_c rfl) rc_6_162 ?_
          refine go_lload_n (pc' := 42) dX6_product_41 rfl rfl ?_
          obtain ⟨g2, h⟩ := gd h
          refine go_labs (pc' := 45) dX6_product_42 rfl rm_6_157 (Nat.le_of_ble_eq_true rfl) g2 ?_
          obtain ⟨g3, h⟩ := gd h
          refine go_ldiv (pc' := 46) dX6_product_45 rfl g3 ?_
          refine go_lcmp (pc' := 47) dX6_product_46 rfl ?_
          refine go_if_le (t := 85) (pc' := 50) dX6_product_47 rfl rfl (fun c14 => ?_) (fun c14 => ?_)
          · rw [if_pos (show (lcm (max x1 (-x1)) (Int.tdiv 1000000000000 (max x2 (-x2)))) ≤ 0 from c14)] at h
            refine go_lload_n (pc' := 86) dX6_product_85 rfl rfl ?_
            refine go_lload_n (pc' := 87) dX6_product_86 rfl rfl ?_
            obtain ⟨g4, h⟩ := gd h
            refine go_lmul (pc' := 88) dX6_product_87 rfl g4 ?_
            cases h
            exact go_lret dX6_product_88 rfl rfl
          · rw [if_neg (show ¬ ((lcm (max x1 (-x1)) (Int.tdiv 1000000000000 (max x2 (-x2)))) ≤ 0) from c14)] at h
            refine go_lload_n (pc' := 51) dX6_product_50 rfl rfl ?_
            refine go_lconst (z := 0) (pc' := 52) dX6_product_51 rfl rfl ?_
            refine go_lcmp (pc' := 53) dX6_product_52 rfl ?_
            obtain ⟨j5, k6, h⟩ := bd h
            have k6J : Go none (Ev (d + 0)) mt112 61 [some (pvL x1), none, some (pvL x2), none] [pvI j5] (true, n, e, σ) (0, some (pvL r), true, n, e, σ) := by
              refine go_lload_n (pc' := 62) dX6_product_61 rfl rfl ?_
              refine go_lconst (z := 0) (pc' := 63) dX6_product_62 rfl rfl ?_
              refine go_lcmp (pc' := 64) dX6_product_63 rfl ?_
              obtain ⟨j7, k8, h⟩ := bd h
              have k8J : Go none (Ev (d + 0)) mt112 72 [some (pvL x1), none, some (pvL x2), none] [pvI j7, pvI j5] (true, n, e, σ) (0, some (pvL r), true, n, e, σ) := by
                obtain ⟨j9, k10, h⟩ := bd h
                have k10J : Go none (Ev (d + 0)) mt112 84 [some (pvL x1), none, some (pvL x2), none] [pvL j9] (true, n, e, σ) (0, some (pvL r), true, n, e, σ) := by
                  cases h
                  exact go_lret dX6_product_84 rfl rfl
                clear h
                have h := k10
                refine go_icmp_ne (t := 81) (pc' := 75) dX6_product_72 rfl rfl (fun c11 => ?_) (fun c11 => ?_)
                · rw [if_pos (show j5 ≠ j7 from c11)] at h
                  refine go_ldc2 (pc' := 84) dX6_product_81 rfl (r64_c rfl) rc_6_164 ?_
                  cases h
                  exact k10J
                · rw [if_neg (show ¬ (j5 ≠ j7) from c11)] at h
                  refine go_ldc2 (pc' := 78) dX6_product_75 rfl (r64_c rfl) rc_6_162 ?_
                  refine go_goto (t := 84) dX6_product_78 rfl ?_
                  cases h
                  exact k10J
              clear h
              have h := k8
              refine go_if_ge (t := 71) (pc' := 67) dX6_product_64 rfl rfl (fun c12 => ?_) (fun c12 => ?_)
              · rw [if_pos (show 0 ≤ (lcm x2 0) from c12)] at h
                refine go_iconst (pc' := 72) dX6_product_71 rfl (r32_c rfl) ?_
                cases h
                exact k8J
              · rw [if_neg (show ¬ (0 ≤ (lcm x2 0)) from c12)] at h
                refine go_iconst (pc' := 68) dX6_product_67 rfl (r32_c rfl) ?_
                refine go_goto (t := 72) dX6_product_68 rfl ?_
                cases h
                exact k8J
            clear h
            have h := k6
            refine go_if_ge (t := 60) (pc' := 56) dX6_product_53 rfl rfl (fun c13 => ?_) (fun c13 => ?_)
            · rw [if_pos (show 0 ≤ (lcm x1 0) from c13)] at h
              refine go_iconst (pc' := 61) dX6_product_60 rfl (r32_c rfl) ?_
              cases h
              exact k6J
            · rw [if_neg (show ¬ (0 ≤ (lcm x1 0)) from c13)] at h
              refine go_iconst (pc' := 57) dX6_product_56 rfl (r32_c rfl) ?_
              refine go_goto (t := 61) dX6_product_57 rfl ?_
              cases h
              exact k6J
        · rw [if_neg (show ¬ ((lcm x2 0) ≠ 0) from c15)] at h
          refine go_lconst (z := 0) (pc' := 33) dX6_product_32 rfl rfl ?_
          cases h
          exact go_lret dX6_product_33 rfl rfl
    · rw [if_neg (show ¬ ((lcm x2 (-9223372036854775808)) ≠ 0) from c17)] at h
      refine go_ldc2 (pc' := 19) dX6_product_16 rfl (r64_c rfl) rc_6_66 ?_
      cases h
      exact go_lret dX6_product_19 rfl rfl

