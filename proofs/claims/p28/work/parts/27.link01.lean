/-! ===== links: each function is what its bytecode does ===== -/
set_option maxRecDepth 10000 in
theorem l_C_measure (d : Nat) (n e : Nat) (σ : Hp) (x1 : Int) (x2 : Int) (x3 : Int) (r : Nat × Int × Hp) (h : f_C_measure σ x1 x2 x3 = some r) : Ev (d + 3) 36 [pvR 10 0 0, pvI x1, pvI x2, pvI x3] (true, n, e, σ) (r.1, if r.1 = 0 then some (pvI r.2.1) else none, true, n, e + if r.1 = 0 then 0 else 1, r.2.2) := by
  unfold f_C_measure at h
  refine Ev.of mtE36 rfl rfl rfl rfl ?_
  show Go none (Ev (d + 2)) mt36 0 [some (pvR 10 0 0), some (pvI x1), some (pvI x2), some (pvI x3), none] [] (true, n, e, σ) (r.1, if r.1 = 0 then some (pvI r.2.1) else none, true, n, e + if r.1 = 0 then 0 else 1, r.2.2)
  refine go_iload_n (pc' := 1) dX10_measure_0 rfl rfl ?_
  refine go_iconst (pc' := 2) dX10_measure_1 rfl (r32_c rfl) ?_
  obtain ⟨j1, k2, h⟩ := bd h
  have k2J : j1.1 = 0 → Go none (Ev (d + 2)) mt36 15 [some (pvR 10 0 0), some (pvI x1), some (pvI x2), some (pvI x3), none] [] (true, n, e, σ) (r.1, if r.1 = 0 then some (pvI r.2.1) else none, true, n, e + if r.1 = 0 then 0 else 1, r.2.2) := by
    intro c27
    rw [if_pos c27] at h
    refine go_iload_n (pc' := 16) dX10_measure_15 rfl rfl ?_
    refine go_iconst (pc' := 17) dX10_measure_16 rfl (r32_c rfl) ?_
    refine go_iconst (pc' := 18) dX10_measure_17 rfl (r32_c rfl) ?_
    obtain ⟨v11, k12, h⟩ := bd h
    by_cases c13 : v11 = 0
    · rw [if_pos c13] at h
      have k12 := l_C_needRange (d + 1) n e σ x1 0 3 _ k12
      rw [c13] at k12
      refine go_call (kc := 17) (Mc := mt17) (v := none) (w' := (true, n, e, σ)) (pc' := 21) (st' := []) [pvI x1, pvI 0, pvI 3] [] (Or.inr (Or.inl rfl)) dX10_measure_18 rfl rm_10_70 mtE17 rfl rfl rfl (Nat.le_of_ble_eq_true rfl) (Or.inl (by decide)) k12 rfl ?_
      refine go_aload_n (pc' := 22) dX10_measure_21 rfl rfl (Nat.le_of_ble_eq_true rfl) ?_
      refine go_getR (k' := 4) (L0 := 0) (P' := 95) (pc' := 25) dX10_measure_22 rfl rf_10_21 rfl rfl (by omega) ?_
      refine go_getI (pc' := 28) dX10_measure_25 rfl rf_10_197 rfl ?_
      refine go_iconst (pc' := 29) dX10_measure_28 rfl (r32_c rfl) ?_
      obtain ⟨j14, k15, h⟩ := bd h
      have k15J : Go none (Ev (d + 2)) mt36 37 [some (pvR 10 0 0), some (pvI x1), some (pvI x2), some (pvI x3), none] [pvI j14] (true, n, e, σ) (r.1, if r.1 = 0 then some (pvI r.2.1) else none, true, n, e + if r.1 = 0 then 0 else 1, r.2.2) := by
        obtain ⟨v16, k17, h⟩ := bd h
        by_cases c18 : v16 = 0
        · rw [if_pos c18] at h
          have k17 := l_C_need (d + 1) n e σ j14 _ k17
          rw [c18] at k17
          refine go_call (kc := 19) (Mc := mt19) (v := none) (w' := (true, n, e, σ)) (pc' := 40) (st' := []) [pvI j14] [] (Or.inr (Or.inl rfl)) dX10_measure_37 rfl rm_10_84 mtE19 rfl rfl rfl (Nat.le_of_ble_eq_true rfl) (Or.inl (by decide)) k17 rfl ?_
          refine go_aload_n (pc' := 41) dX10_measure_40 rfl rfl (Nat.le_of_ble_eq_true rfl) ?_
          refine go_getR (k' := 4) (L0 := 0) (P' := 95) (pc' := 44) dX10_measure_41 rfl rf_10_21 rfl rfl (by omega) ?_
          refine go_iload_n (pc' := 45) dX10_measure_44 rfl rfl ?_
          refine go_iload_n (pc' := 46) dX10_measure_45 rfl rfl ?_
          refine go_iload_n (pc' := 47) dX10_measure_46 rfl rfl ?_
          obtain ⟨v19, k20, h⟩ := bd h
          have k20 := l_MS_add (d + 0) n e σ x1 x2 x3 _ k20
          refine go_call (kc := 39) (Mc := mt39) (v := some (pvI v19.1)) (w' := (true, n, e, v19.2)) (pc' := 50) (st' := [pvI v19.1]) [pvR 4 0 95, pvI x1, pvI x2, pvI x3] [] (Or.inl rfl) dX10_measure_47 rfl rm_10_198 mtE39 rfl rfl rfl (Nat.le_of_ble_eq_true rfl) (Or.inr ⟨_, _, 95, rfl, Or.inl rfl⟩) k20 rfl ?_
          refine go_istore (L' := [some (pvR 10 0 0), some (pvI x1), some (pvI x2), some (pvI x3), some (pvI v19.1)]) (pc' := 52) dX10_measure_50 rfl (Nat.le_of_ble_eq_true rfl) rfl ?_
          refine go_aload_n (pc' := 53) dX10_measure_52 rfl rfl (Nat.le_of_ble_eq_true rfl) ?_
          refine go_getR (k' := 3) (L0 := 0) (P' := 108) (pc' := 56) dX10_measure_53 rfl rf_10_35 rfl rfl (by omega) ?_
          obtain ⟨v21, k22, h⟩ := bd h
          have k22 := l_K_dropAll (d + 1) n e v19.2 _ k22
          refine go_call (kc := 35) (Mc := mt35) (v := none) (w' := (true, n, e, v21)) (pc' := 59) (st' := []) [pvR 3 0 108] [] (Or.inl rfl) dX10_measure_56 rfl rm_10_105 mtE35 rfl rfl rfl (Nat.le_of_ble_eq_true rfl) (Or.inr ⟨_, _, 108, rfl, Or.inl rfl⟩) k22 rfl ?_
          refine go_iload (pc' := 61) dX10_measure_59 rfl rfl ?_
          cases h
          exact go_iret dX10_measure_61 rfl rfl
        · rw [if_neg c18] at h
          obtain ⟨g23, h⟩ := gd h
          cases h
          have k17 := l_C_need (d + 1) n e σ j14 _ k17
          simp only [if_neg c18] at k17 ⊢
          exact go_callX (kc := 19) (Mc := mt19) [pvI j14] [] (Or.inr rfl) dX10_measure_37 rm_10_84 mtE19 rfl rfl rfl (Nat.le_of_ble_eq_true rfl) (Or.inl (by decide)) rfl c18 g23 k17 rfl
      clear h
      have h := k15
      refine go_icmp_ge (t := 36) (pc' := 32) dX10_measure_29 rfl rfl (fun c24 => ?_) (fun c24 => ?_)
      · rw [if_pos (show 4 ≤ (σ 95 0) from c24)] at h
        refine go_iconst (pc' := 37) dX10_measure_36 rfl (r32_c rfl) ?_
        cases h
        exact k15J
      · rw [if_neg (show ¬ (4 ≤ (σ 95 0)) from c24)] at h
        refine go_iconst (pc' := 33) dX10_measure_32 rfl (r32_c rfl) ?_
        refine go_goto (t := 37) dX10_measure_33 rfl ?_
        cases h
        exact k15J
    · rw [if_neg c13] at h
      obtain ⟨g25, h⟩ := gd h
      cases h
      have k12 := l_C_needRange (d + 1) n e σ x1 0 3 _ k12
      simp only [if_neg c13] at k12 ⊢
      exact go_callX (kc := 17) (Mc := mt17) [pvI x1, pvI 0, pvI 3] [] (Or.inr rfl) dX10_measure_18 rm_10_70 mtE17 rfl rfl rfl (Nat.le_of_ble_eq_true rfl) (Or.inl (by decide)) rfl c13 g25 k12 rfl
  have k2X : j1.1 ≠ 0 → r = (j1.1, 0, σ) := by
    intro c27
    rw [if_neg c27] at h
    cases h
    rfl
  clear h
  have h := k2
  refine go_icmp_ne (t := 15) (pc' := 5) dX10_measure_2 rfl rfl (fun c26 => ?_) (fun c26 => ?_)
  · rw [if_pos (show x1 ≠ 3 from c26)] at h
    cases h
    exact (k2J rfl)
  · rw [if_neg (show ¬ (x1 ≠ 3) from c26)] at h
    refine go_aload_n (pc' := 6) dX10_measure_5 rfl rfl (Nat.le_of_ble_eq_true rfl) ?_
    refine go_iload_n (pc' := 7) dX10_measure_6 rfl rfl ?_
    obtain ⟨v3, k4, h⟩ := bd h
    by_cases c5 : v3 = 0
    · rw [if_pos c5] at h
      have k4 := l_C_needMeasure (d + 0) n e σ x2 _ k4
      rw [c5] at k4
      refine go_call (kc := 37) (Mc := mt37) (v := none) (w' := (true, n, e, σ)) (pc' := 10) (st' := []) [pvR 10 0 0, pvI x2] [] (Or.inl rfl) dX10_measure_7 rfl rm_10_193 mtE37 rfl rfl rfl (Nat.le_of_ble_eq_true rfl) (Or.inr ⟨_, _, 0, rfl, Or.inl rfl⟩) k4 rfl ?_
      refine go_aload_n (pc' := 11) dX10_measure_10 rfl rfl (Nat.le_of_ble_eq_true rfl) ?_
      refine go_iload_n (pc' := 12) dX10_measure_11 rfl rfl ?_
      obtain ⟨v6, k7, h⟩ := bd h
      by_cases c8 : v6 = 0
      · rw [if_pos c8] at h
        have k7 := l_C_needMeasure (d + 0) n e σ x3 _ k7
        rw [c8] at k7
        refine go_call (kc := 37) (Mc := mt37) (v := none) (w' := (true, n, e, σ)) (pc' := 15) (st' := []) [pvR 10 0 0, pvI x3] [] (Or.inl rfl) dX10_measure_12 rfl rm_10_193 mtE37 rfl rfl rfl (Nat.le_of_ble_eq_true rfl) (Or.inr ⟨_, _, 0, rfl, Or.inl rfl⟩) k7 rfl ?_
        cases h
        exact (k2J rfl)
      · rw [if_neg c8] at h
        obtain ⟨g9, h⟩ := gd h
        cases h
        have hr : r = (v6, 0, σ) := k2X c8
        subst hr
        have k7 := l_C_needMeasure (d + 0) n e σ x3 _ k7
        simp only [if_neg c8] at k7 ⊢
        exact go_callX (kc := 37) (Mc := mt37) [pvR 10 0 0, pvI x3] [] (Or.inl rfl) dX10_measure_12 rm_10_193 mtE37 rfl rfl rfl (Nat.le_of_ble_eq_true rfl) (Or.inr ⟨_, _, 0, rfl, Or.inl rfl⟩) rfl c8 g9 k7 rfl
    · rw [if_neg c5] at h
      obtain ⟨g10, h⟩ := gd h
      cases h
      have hr : r = (v3, 0, σ) := k2X c5
      subst hr
      have k4 := l_C_needMeasure (d + 0) n e σ x2 _ k4
      simp only [if_neg c5] at k4 ⊢
      exact go_callX (kc := 37) (Mc := mt37) [pvR 10 0 0, pvI x2] [] (Or.inl rfl) dX10_measure_7 rm_10_193 mtE37 rfl rfl rfl (Nat.le_of_ble_eq_true rfl) (Or.inr ⟨_, _, 0, rfl, Or.inl rfl⟩) rfl c5 g10 k4 rfl

set_option maxRecDepth 10000 in
theorem l_L_low (d : Nat) (n e : Nat) (σ : Hp) (x1 : Int) (x2 : Int) (r : Int) (h : f_L_low σ x1 x2 = some r) : Ev (d + 1) 41 [pvI x1, pvI x2] (true, n, e, σ) (0, some (pvI r), true, n, e, σ) := by
  unfold f_L_low at h
  refine Ev.of mtE41 rfl rfl rfl rfl ?_
  show Go none (Ev (d + 0)) mt41 0 [some (pvI x1), some (pvI x2)] [] (true, n, e, σ) (0, some (pvI r), true, n, e, σ)
  refine go_iload_n (pc' := 1) dL_low_0 rfl rfl ?_
  refine go_ldc (pc' := 3) dL_low_1 rfl (r32_c rfl) rc_12_8 ?_
  refine go_iand (pc' := 4) dL_low_3 rfl ?_
  refine go_iload_n (pc' := 5) dL_low_4 rfl rfl ?_
  obtain ⟨g1, h⟩ := gd h
  refine go_irem (pc' := 6) dL_low_5 rfl g1 ?_
  cases h
  exact go_iret dL_low_6 rfl rfl

set_option maxRecDepth 10000 in
theorem l_L_members (d : Nat) (n e : Nat) (σ : Hp) (x2 : Int) (x3 : Int) (x4 : Int) (r : Int × Nat × Hp) (h : f_L_members σ e x2 x3 x4 = some r) : Ev (d + 8) 42 [pvR 10 0 0, pvI x2, pvI x3, pvI x4] (true, n, e, σ) (0, some (pvI r.1), true, n, r.2.1, r.2.2) := by
  unfold f_L_members at h
  refine Ev.of mtE42 rfl rfl rfl rfl ?_
  show Go none (Ev (d + 7)) mt42 0 [some (pvR 10 0 0), some (pvI x2), some (pvI x3), some (pvI x4), none] [] (true, n, e, σ) (0, some (pvI r.1), true, n, r.2.1, r.2.2)
  refine go_aload_n (pc' := 1) dL_members_0 rfl rfl (Nat.le_of_ble_eq_true rfl) ?_
  refine go_iload_n (pc' := 2) dL_members_1 rfl rfl ?_
  refine go_iload_n (pc' := 3) dL_members_2 rfl rfl ?_
  refine go_iload_n (pc' := 4) dL_members_3 rfl rfl ?_
  obtain ⟨v1, k2, h⟩ := bd h
  by_cases c3 : v1.1 = 0
  · rw [if_pos c3] at h
    have k2 := l_C_member (d + 0) n e σ x2 x3 x4 _ k2
    rw [c3] at k2
    refine go_call (kc := 12) (Mc := mt12) (v := some (pvI v1.2.1)) (w' := (true, n, e, v1.2.2)) (pc' := 7) (st' := [pvI v1.2.1]) [pvR 10 0 0, pvI x2, pvI x3, pvI x4] [] (Or.inl rfl) dL_members_4 rfl rm_12_9 mtE12 rfl rfl rfl (Nat.le_of_ble_eq_true rfl) (Or.inr ⟨_, _, 0, rfl, Or.inl rfl⟩) k2 rfl ?_
    cases h
    exact go_iret dL_members_7 rfl rfl
  · rw [if_neg c3] at h
    by_cases c4 : v1.1 = 1
    · rw [if_pos c4] at h
      have k2 := l_C_member (d + 0) n e σ x2 x3 x4 _ k2
      rw [c4] at k2
      refine go_callH (x := 1) (kc := 12) (Mc := mt12) (h := 8) (i := 4) (ln := 2) (w' := (true, n, (e + 1), v1.2.2)) (pc' := 10) (L' := [some (pvR 10 0 0), some (pvI x2), some (pvI x3), some (pvI x4), none]) [pvR 10 0 0, pvI x2, pvI x3, pvI x4] [] (Or.inl rfl) dL_members_4 rm_12_9 mtE12 rfl rfl rfl (Nat.le_of_ble_eq_true rfl) (Or.inr ⟨_, _, 0, rfl, Or.inl rfl⟩) (by decide +kernel) (by decide) (by decide) (Or.inl ⟨dL_members_8, rfl⟩) (Nat.le_of_ble_eq_true rfl) rfl rfl k2 ?_
      refine go_bipush (pc' := 12) dL_members_10 rfl (r32_c rfl) (by decide) ?_
      cases h
      exact go_iret dL_members_12 rfl rfl
    · rw [if_neg c4] at h
      by_cases c5 : v1.1 = 2
      · rw [if_pos c5] at h
        have k2 := l_C_member (d + 0) n e σ x2 x3 x4 _ k2
        rw [c5] at k2
        refine go_callH (x := 2) (kc := 12) (Mc := mt12) (h := 13) (i := 4) (ln := 2) (w' := (true, n, (e + 1), v1.2.2)) (pc' := 15) (L' := [some (pvR 10 0 0), some (pvI x2), some (pvI x3), some (pvI x4), none]) [pvR 10 0 0, pvI x2, pvI x3, pvI x4] [] (Or.inl rfl) dL_members_4 rm_12_9 mtE12 rfl rfl rfl (Nat.le_of_ble_eq_true rfl) (Or.inr ⟨_, _, 0, rfl, Or.inl rfl⟩) (by decide +kernel) (by decide) (by decide) (Or.inl ⟨dL_members_13, rfl⟩) (Nat.le_of_ble_eq_true rfl) rfl rfl k2 ?_
        refine go_bipush (pc' := 17) dL_members_15 rfl (r32_c rfl) (by decide) ?_
        cases h
        exact go_iret dL_members_17 rfl rfl
      · rw [if_neg c5] at h
        by_cases c6 : v1.1 = 3
        · rw [if_pos c6] at h
          have k2 := l_C_member (d + 0) n e σ x2 x3 x4 _ k2
          rw [c6] at k2
          refine go_callH (x := 3) (kc := 12) (Mc := mt12) (h := 18) (i := 4) (ln := 2) (w' := (true, n, (e + 1), v1.2.2)) (pc' := 20) (L' := [some (pvR 10 0 0), some (pvI x2), some (pvI x3), some (pvI x4), none]) [pvR 10 0 0, pvI x2, pvI x3, pvI x4] [] (Or.inl rfl) dL_members_4 rm_12_9 mtE12 rfl rfl rfl (Nat.le_of_ble_eq_true rfl) (Or.inr ⟨_, _, 0, rfl, Or.inl rfl⟩) (by decide +kernel) (by decide) (by decide) (Or.inl ⟨dL_members_18, rfl⟩) (Nat.le_of_ble_eq_true rfl) rfl rfl k2 ?_
          refine go_bipush (pc' := 22) dL_members_20 rfl (r32_c rfl) (by decide) ?_
          cases h
          exact go_iret dL_members_22 rfl rfl
        · rw [if_neg c6] at h
          cases h

set_option maxRecDepth 10000 in
theorem l_JI_bitCount (d : Nat) (n e : Nat) (σ : Hp) (x1 : Int) (r : Int) (h : f_JI_bitCount σ x1 = some r) : Ev (d + 1) 45 [pvI x1] (true, n, e, σ) (0, some (pvI r), true, n, e, σ) := by
  unfold f_JI_bitCount at h
  refine Ev.of mtE45 rfl rfl rfl rfl ?_
  show Go none (Ev (d + 0)) mt45 0 [some (pvI x1)] [] (true, n, e, σ) (0, some (pvI r), true, n, e, σ)
  refine go_iload_n (pc' := 1) dJ6_bitCount_0f7a4_0 rfl rfl ?_
  refine go_iload_n (pc' := 2) dJ6_bitCount_0f7a4_1 rfl rfl ?_
  refine go_iconst (pc' := 3) dJ6_bitCount_0f7a4_2 rfl (r32_c rfl) ?_
  refine go_iushr (pc' := 4) dJ6_bitCount_0f7a4_3 rfl ?_
  refine go_ldcw (pc' := 7) dJ6_bitCount_0f7a4_4 rfl (r32_c rfl) rc_13_265 ?_
  refine go_iand (pc' := 8) dJ6_bitCount_0f7a4_7 rfl ?_
  obtain ⟨g1, h⟩ := gd h
  refine go_isub (pc' := 9) dJ6_bitCount_0f7a4_8 rfl g1 ?_
  refine go_istore_n (L' := [some (pvI (x1 - (iand (iushr x1 1) 1431655765)))]) (pc' := 10) dJ6_bitCount_0f7a4_9 rfl (Nat.le_of_ble_eq_true rfl) rfl ?_
  refine go_iload_n (pc' := 11) dJ6_bitCount_0f7a4_10 rfl rfl ?_
  refine go_ldcw (pc' := 14) dJ6_bitCount_0f7a4_11 rfl (r32_c rfl) rc_13_266 ?_
  refine go_iand (pc' := 15) dJ6_bitCount_0f7a4_14 rfl ?_
  refine go_iload_n (pc' := 16) dJ6_bitCount_0f7a4_15 rfl rfl ?_
  refine go_iconst (pc' := 17) dJ6_bitCount_0f7a4_16 rfl (r32_c rfl) ?_
  refine go_iushr (pc' := 18) dJ6_bitCount_0f7a4_17 rfl ?_
  refine go_ldcw (pc' := 21) dJ6_bitCount_0f7a4_18 rfl (r32_c rfl) rc_13_266 ?_
  refine go_iand (pc' := 22) dJ6_bitCount_0f7a4_21 rfl ?_
  obtain ⟨g2, h⟩ := gd h
  refine go_iadd (pc' := 23) dJ6_bitCount_0f7a4_22 rfl g2 ?_
  refine go_istore_n (L' := [some (pvI ((iand (x1 - (iand (iushr x1 1) 1431655765)) 858993459) + (iand (iushr (x1 - (iand (iushr x1 1) 1431655765)) 2) 858993459)))]) (pc' := 24) dJ6_bitCount_0f7a4_23 rfl (Nat.le_of_ble_eq_true rfl) rfl ?_
  refine go_iload_n (pc' := 25) dJ6_bitCount_0f7a4_24 rfl rfl ?_
  refine go_iload_n (pc' := 26) dJ6_bitCount_0f7a4_25 rfl rfl ?_
  refine go_iconst (pc' := 27) dJ6_bitCount_0f7a4_26 rfl (r32_c rfl) ?_
  refine go_iushr (pc' := 28) dJ6_bitCount_0f7a4_27 rfl ?_
  obtain ⟨g3, h⟩ := gd h
  refine go_iadd (pc' := 29) dJ6_bitCount_0f7a4_28 rfl g3 ?_
  refine go_ldcw (pc' := 32) dJ6_bitCount_0f7a4_29 rfl (r32_c rfl) rc_13_267 ?_
  refine go_iand (pc' := 33) dJ6_bitCount_0f7a4_32 rfl ?_
  refine go_istore_n (L' := [some (pvI (iand (((iand (x1 - (iand (iushr x1 1) 1431655765)) 858993459) + (iand (iushr (x1 - (iand (iushr x1 1) 1431655765)) 2) 858993459)) + (iushr ((iand (x1 - (iand (iushr x1 1) 1431655765)) 858993459) + (iand (iushr (x1 - (iand (iushr x1 1) 1431655765)) 2) 858993459)) 4)) 252645135))]) (pc' := 34) dJ6_bitCount_0f7a4_33 rfl (Nat.le_of_ble_eq_true rfl) rfl ?_
  refine go_iload_n (pc' := 35) dJ6_bitCount_0f7a4_34 rfl rfl ?_
  refine go_iload_n (pc' := 36) dJ6_bitCount_0f7a4_35 rfl rfl ?_
  refine go_bipush (pc' := 38) dJ6_bitCount_0f7a4_36 rfl (r32_c rfl) (by decide) ?_
  refine go_iushr (pc' := 39) dJ6_bitCount_0f7a4_38 rfl ?_
  obtain ⟨g4, h⟩ := gd h
  refine go_iadd (pc' := 40) dJ6_bitCount_0f7a4_39 rfl g4 ?_
  refine go_istore_n (L' := [some (pvI ((iand (((iand (x1 - (iand (iushr x1 1) 1431655765)) 858993459) + (iand (iushr (x1 - (iand (iushr x1 1) 1431655765)) 2) 858993459)) + (iushr ((iand (x1 - (iand (iushr x1 1) 1431655765)) 858993459) + (iand (iushr (x1 - (iand (iushr x1 1) 1431655765)) 2) 858993459)) 4)) 252645135) + (iushr (iand (((iand (x1 - (iand (iushr x1 1) 1431655765)) 858993459) + (iand (iushr (x1 - (iand (iushr x1 1) 1431655765)) 2) 858993459)) + (iushr ((iand (x1 - (iand (iushr x1 1) 1431655765)) 858993459) + (iand (iushr (x1 - (iand (iushr x1 1) 1431655765)) 2) 858993459)) 4)) 252645135) 8)))]) (pc' := 41) dJ6_bitCount_0f7a4_40 rfl (Nat.le_of_ble_eq_true rfl) rfl ?_
  refine go_iload_n (pc' := 42) dJ6_bitCount_0f7a4_41 rfl rfl ?_
  refine go_iload_n (pc' := 43) dJ6_bitCount_0f7a4_42 rfl rfl ?_
  refine go_bipush (pc' := 45) dJ6_bitCount_0f7a4_43 rfl (r32_c rfl) (by decide) ?_
  refine go_iushr (pc' := 46) dJ6_bitCount_0f7a4_45 rfl ?_
  obtain ⟨g5, h⟩ := gd h
  refine go_iadd (pc' := 47) dJ6_bitCount_0f7a4_46 rfl g5 ?_
  refine go_istore_n (L' := [some (pvI (((iand (((iand (x1 - (iand (iushr x1 1) 1431655765)) 858993459) + (iand (iushr (x1 - (iand (iushr x1 1) 1431655765)) 2) 858993459)) + (iushr ((iand (x1 - (iand (iushr x1 1) 1431655765)) 858993459) + (iand (iushr (x1 - (iand (iushr x1 1) 1431655765)) 2) 858993459)) 4)) 252645135) + (iushr (iand (((iand (x1 - (iand (iushr x1 1) 1431655765)) 858993459) + (iand (iushr (x1 - (iand (iushr x1 1) 1431655765)) 2) 858993459)) + (iushr ((iand (x1 - (iand (iushr x1 1) 1431655765)) 858993459) + (iand (iushr (x1 - (iand (iushr x1 1) 1431655765)) 2) 858993459)) 4)) 252645135) 8)) + (iushr ((iand (((iand (x1 - (iand (iushr x1 1) 1431655765)) 858993459) + (iand (iushr (x1 - (iand (iushr x1 1) 1431655765)) 2) 858993459)) + (iushr ((iand (x1 - (iand (iushr x1 1) 1431655765)) 858993459) + (iand (iushr (x1 - (iand (iushr x1 1) 1431655765)) 2) 858993459)) 4)) 252645135) + (iushr (iand (((iand (x1 - (iand (iushr x1 1) 1431655765)) 858993459) + (iand (iushr (x1 - (iand (iushr x1 1) 1431655765)) 2) 858993459)) + (iushr ((iand (x1 - (iand (iushr x1 1) 1431655765)) 858993459) + (iand (iushr (x1 - (iand (iushr x1 1) 1431655765)) 2) 858993459)) 4)) 252645135) 8)) 16)))]) (pc' := 48) dJ6_bitCount_0f7a4_47 rfl (Nat.le_of_ble_eq_true rfl) rfl ?_
  refine go_iload_n (pc' := 49) dJ6_bitCount_0f7a4_48 rfl rfl ?_
  refine go_bipush (pc' := 51) dJ6_bitCount_0f7a4_49 rfl (r32_c rfl) (by decide) ?_
  refine go_iand (pc' := 52) dJ6_bitCount_0f7a4_51 rfl ?_
  cases h
  exact go_iret dJ6_bitCount_0f7a4_52 rfl rfl

set_option maxRecDepth 10000 in
theorem l_D_areAllPlain_2 (d : Nat) (n : Nat) (e : Nat) (σ : Hp) (p : Nat) (x1 : Int) : ∀ (F : Nat) (y1 : Int) (r : Int), f_D_areAllPlain_2 σ p x1 F y1 = some r → Go none (Ev (d + 2)) mt46 2 [some (pvR 0 0 p), some (pvI x1), some (pvI y1)] [] (true, n, e, σ) (0, some (pvI r), true, n, e, σ) := by
  intro F
  induction F with
  | zero =>
    intro _ _ h
    rw [f_D_areAllPlain_2] at h
    cases h
  | succ F ih =>
    intro y1 r h
    rw [f_D_areAllPlain_2] at h
    refine go_iload_n (pc' := 3) dX0_areAllPlain_2 rfl rfl ?_
    refine go_bipush (pc' := 5) dX0_areAllPlain_3 rfl (r32_c rfl) (by decide) ?_
    refine go_icmp_ge (t := 33) (pc' := 8) dX0_areAllPlain_5 rfl rfl (fun c10 => ?_) (fun c10 => ?_)
    · rw [if_pos (show 12 ≤ y1 from c10)] at h
      refine go_iconst (pc' := 34) dX0_areAllPlain_33 rfl (r32_c rfl) ?_
      obtain ⟨g2, h⟩ := gd h
      cases h
      exact go_zret dX0_areAllPlain_34 rfl g2 rfl
    · rw [if_neg (show ¬ (12 ≤ y1) from c10)] at h
      refine go_iload_n (pc' := 9) dX0_areAllPlain_8 rfl rfl ?_
      refine go_iload_n (pc' := 10) dX0_areAllPlain_9 rfl rfl ?_
      refine go_ishr (pc' := 11) dX0_areAllPlain_10 rfl ?_
      refine go_iconst (pc' := 12) dX0_areAllPlain_11 rfl (r32_c rfl) ?_
      refine go_iand (pc' := 13) dX0_areAllPlain_12 rfl ?_
      refine go_iconst (pc' := 14) dX0_areAllPlain_13 rfl (r32_c rfl) ?_
      refine go_icmp_ne (t := 27) (pc' := 17) dX0_areAllPlain_14 rfl rfl (fun c9 => ?_) (fun c9 => ?_)
      · rw [if_pos (show (iand (ishr x1 y1) 1) ≠ 1 from c9)] at h
        obtain ⟨g3, h⟩ := gd h
        refine go_iinc (L' := [some (pvR 0 0 p), some (pvI x1), some (pvI (y1 + 1))]) (pc' := 30) dX0_areAllPlain_27 rfl rfl g3 rfl ?_
        refine go_goto (t := 2) dX0_areAllPlain_30 rfl ?_
        exact ih (y1 + 1) _ h
      · rw [if_neg (show ¬ ((iand (ishr x1 y1) 1) ≠ 1) from c9)] at h
        refine go_aload_n (pc' := 18) dX0_areAllPlain_17 rfl rfl (Nat.le_of_ble_eq_true rfl) ?_
        refine go_iload_n (pc' := 19) dX0_areAllPlain_18 rfl rfl ?_
        obtain ⟨v4, k5, h⟩ := bd h
        have k5 := l_D_isPlain (d + 0) n e σ p y1 _ k5
        refine go_call (kc := 18) (Mc := mt18) (v := some (pvI v4)) (w' := (true, n, e, σ)) (pc' := 22) (st' := [pvI v4]) [pvR 0 0 p, pvI y1] [] (Or.inl rfl) dX0_areAllPlain_19 rfl rm_0_69 mtE18 rfl rfl rfl (Nat.le_of_ble_eq_true rfl) (Or.inr ⟨_, _, p, rfl, Or.inl rfl⟩) k5 rfl ?_
        refine go_if_ne (t := 27) (pc' := 25) dX0_areAllPlain_22 rfl rfl (fun c8 => ?_) (fun c8 => ?_)
        · rw [if_pos (show v4 ≠ 0 from c8)] at h
          obtain ⟨g6, h⟩ := gd h
          refine go_iinc (L' := [some (pvR 0 0 p), some (pvI x1), some (pvI (y1 + 1))]) (pc' := 30) dX0_areAllPlain_27 rfl rfl g6 rfl ?_
          refine go_goto (t := 2) dX0_areAllPlain_30 rfl ?_
          exact ih (y1 + 1) _ h
        · rw [if_neg (show ¬ (v4 ≠ 0) from c8)] at h
          refine go_iconst (pc' := 26) dX0_areAllPlain_25 rfl (r32_c rfl) ?_
          obtain ⟨g7, h⟩ := gd h
          cases h
          exact go_zret dX0_areAllPlain_26 rfl g7 rfl

set_option maxRecDepth 10000 in
theorem l_D_areAllPlain (d : Nat) (n e : Nat) (σ : Hp) (p : Nat) (x1 : Int) (r : Int) (h : f_D_areAllPlain σ p x1 = some r) : Ev (d + 3) 46 [pvR 0 0 p, pvI x1] (true, n, e, σ) (0, some (pvI r), true, n, e, σ) := by
  unfold f_D_areAllPlain at h
  refine Ev.of mtE46 rfl rfl rfl rfl ?_
  show Go none (Ev (d + 2)) mt46 0 [some (pvR 0 0 p), some (pvI x1), none] [] (true, n, e, σ) (0, some (pvI r), true, n, e, σ)
  refine go_iconst (pc' := 1) dX0_areAllPlain_0 rfl (r32_c rfl) ?_
  refine go_istore_n (L' := [some (pvR 0 0 p), some (pvI x1), some (pvI 0)]) (pc' := 2) dX0_areAllPlain_1 rfl (Nat.le_of_ble_eq_true rfl) rfl ?_
  exact l_D_areAllPlain_2 d n e σ p x1 zFuel 0 _ h

set_option maxRecDepth 10000 in
theorem l_D_addBridge (d : Nat) (n e : Nat) (σ : Hp) (p : Nat) (x1 : Int) (r : Int × Hp) (h : f_D_addBridge σ p x1 = some r) : Ev (d + 2) 47 [pvR 0 0 p, pvI x1] (true, n, e, σ) (0, some (pvI r.1), true, n, e, r.2) := by
  unfold f_D_addBridge at h
  refine Ev.of mtE47 rfl rfl rfl rfl ?_
  show Go none (Ev (d + 1)) mt47 0 [some (pvR 0 0 p), some (pvI x1), none] [] (true, n, e, σ) (0, some (pvI r.1), true, n, e, r.2)
  refine go_aload_n (pc' := 1) dX0_addBridge_0 rfl rfl (Nat.le_of_ble_eq_true rfl) ?_
  refine go_iconst (pc' := 2) dX0_addBridge_1 rfl (r32_c rfl) ?_
  obtain ⟨v1, k2, h⟩ := bd h
  have k2 := l_D_addKind (d + 0) n e σ p 1 _ k2
  refine go_call (kc := 21) (Mc := mt21) (v := some (pvI v1.1)) (w' := (true, n, e, v1.2)) (pc' := 5) (st' := [pvI v1.1]) [pvR 0 0 p, pvI 1] [] (Or.inl rfl) dX0_addBridge_2 rfl rm_0_72 mtE21 rfl rfl rfl (Nat.le_of_ble_eq_true rfl) (Or.inr ⟨_, _, p, rfl, Or.inl rfl⟩) k2 rfl ?_
  refine go_istore_n (L' := [some (pvR 0 0 p), some (pvI x1), some (pvI v1.1)]) (pc' := 6) dX0_addBridge_5 rfl (Nat.le_of_ble_eq_true rfl) rfl ?_
  refine go_aload_n (pc' := 7) dX0_addBridge_6 rfl rfl (Nat.le_of_ble_eq_true rfl) ?_
  refine go_iload_n (pc' := 8) dX0_addBridge_7 rfl rfl ?_
  obtain ⟨v3, k4, h⟩ := bd h
  have k4 := l_D_has (d + 0) n e v1.2 p v1.1 _ k4
  refine go_call (kc := 16) (Mc := mt16) (v := some (pvI v3)) (w' := (true, n, e, v1.2)) (pc' := 11) (st' := [pvI v3]) [pvR 0 0 p, pvI v1.1] [] (Or.inl rfl) dX0_addBridge_8 rfl rm_0_65 mtE16 rfl rfl rfl (Nat.le_of_ble_eq_true rfl) (Or.inr ⟨_, _, p, rfl, Or.inl rfl⟩) k4 rfl ?_
  obtain ⟨j5, k6, h⟩ := bd h
  have k6J : Go none (Ev (d + 1)) mt47 21 [some (pvR 0 0 p), some (pvI x1), some (pvI v1.1)] [] (true, n, e, j5) (0, some (pvI r.1), true, n, e, r.2) := by
    refine go_iload_n (pc' := 22) dX0_addBridge_21 rfl rfl ?_
    cases h
    exact go_iret dX0_addBridge_22 rfl rfl
  clear h
  have h := k6
  refine go_if_eq (t := 21) (pc' := 14) dX0_addBridge_11 rfl rfl (fun c8 => ?_) (fun c8 => ?_)
  · rw [if_pos (show v3 = 0 from c8)] at h
    cases h
    exact k6J
  · rw [if_neg (show ¬ (v3 = 0) from c8)] at h
    refine go_aload_n (pc' := 15) dX0_addBridge_14 rfl rfl (Nat.le_of_ble_eq_true rfl) ?_
    refine go_getR (k' := 12) (L0 := 12) (P' := (p + 8)) (pc' := 18) dX0_addBridge_15 rfl rf_0_32 rfl rfl (by omega) ?_
    refine go_iload_n (pc' := 19) dX0_addBridge_18 rfl rfl ?_
    refine go_iload_n (pc' := 20) dX0_addBridge_19 rfl rfl ?_
    obtain ⟨g7, h⟩ := gd h
    refine go_iast (pc' := 21) dX0_addBridge_20 rfl g7 ?_
    cases h
    exact k6J

set_option maxRecDepth 10000 in
theorem l_C_bridge (d : Nat) (n e : Nat) (σ : Hp) (x1 : Int) (x2 : Int) (r : Nat × Int × Hp) (h : f_C_bridge σ x1 x2 = some r) : Ev (d + 7) 44 [pvR 10 0 0, pvI x1, pvI x2] (true, n, e, σ) (r.1, if r.1 = 0 then some (pvI r.2.1) else none, true, n, e + if r.1 = 0 then 0 else 1, r.2.2) := by
  unfold f_C_bridge at h
  refine Ev.of mtE44 rfl rfl rfl rfl ?_
  show Go none (Ev (d + 6)) mt44 0 [some (pvR 10 0 0), some (pvI x1), some (pvI x2), none, none, none] [] (true, n, e, σ) (r.1, if r.1 = 0 then some (pvI r.2.1) else none, true, n, e + if r.1 = 0 then 0 else 1, r.2.2)
  refine go_aload_n (pc' := 1) dX10_bridge_0 rfl rfl (Nat.le_of_ble_eq_true rfl) ?_
  refine go_iload_n (pc' := 2) dX10_bridge_1 rfl rfl ?_
  obtain ⟨v1, k2, h⟩ := bd h
  by_cases c3 : v1.1 = 0
  · rw [if_pos c3] at h
    have k2 := l_C_existing (d + 4) n e σ x1 _ k2
    rw [c3] at k2
    refine go_call (kc := 13) (Mc := mt13) (v := some (pvR 0 0 v1.2)) (w' := (true, n, e, σ)) (pc' := 5) (st' := [pvR 0 0 v1.2]) [pvR 10 0 0, pvI x1] [] (Or.inl rfl) dX10_bridge_2 rfl rm_10_62 mtE13 rfl rfl rfl (Nat.le_of_ble_eq_true rfl) (Or.inr ⟨_, _, 0, rfl, Or.inl rfl⟩) k2 rfl ?_
    refine go_astore_n (L' := [some (pvR 10 0 0), some (pvI x1), some (pvI x2), some (pvR 0 0 v1.2), none, none]) (pc' := 6) dX10_bridge_5 rfl (Nat.le_of_ble_eq_true rfl) (Nat.le_of_ble_eq_true rfl) rfl ?_
    refine go_iload_n (pc' := 7) dX10_bridge_6 rfl rfl ?_
    refine go_iconst (pc' := 8) dX10_bridge_7 rfl (r32_c rfl) ?_
    obtain ⟨j4, k5, h⟩ := bd h
    have k5J : Go none (Ev (d + 6)) mt44 23 [some (pvR 10 0 0), some (pvI x1), some (pvI x2), some (pvR 0 0 v1.2), none, none] [pvI j4] (true, n, e, σ) (r.1, if r.1 = 0 then some (pvI r.2.1) else none, true, n, e + if r.1 = 0 then 0 else 1, r.2.2) := by
      refine go_istore (L' := [some (pvR 10 0 0), some (pvI x1), some (pvI x2), some (pvR 0 0 v1.2), some (pvI j4), none]) (pc' := 25) dX10_bridge_23 rfl (Nat.le_of_ble_eq_true rfl) rfl ?_
      refine go_iload (pc' := 27) dX10_bridge_25 rfl rfl ?_
      refine go_if_eq (t := 49) (pc' := 30) dX10_bridge_27 rfl rfl (fun c66 => ?_) (fun c66 => ?_)
      · rw [if_pos (show j4 = 0 from c66)] at h
        refine go_iload_n (pc' := 50) dX10_bridge_49 rfl rfl ?_
        refine go_iconst (pc' := 51) dX10_bridge_50 rfl (r32_c rfl) ?_
        refine go_sipush (pc' := 54) dX10_bridge_51 rfl (r32_c rfl) (by decide) ?_
        obtain ⟨v7, k8, h⟩ := bd h
        by_cases c9 : v7 = 0
        · rw [if_pos c9] at h
          have k8 := l_C_needRange (d + 5) n e σ x2 1 4095 _ k8
          rw [c9] at k8
          refine go_call (kc := 17) (Mc := mt17) (v := none) (w' := (true, n, e, σ)) (pc' := 57) (st' := []) [pvI x2, pvI 1, pvI 4095] [] (Or.inr (Or.inl rfl)) dX10_bridge_54 rfl rm_10_70 mtE17 rfl rfl rfl (Nat.le_of_ble_eq_true rfl) (Or.inl (by decide)) k8 rfl ?_
          refine go_iload_n (pc' := 58) dX10_bridge_57 rfl rfl ?_
          obtain ⟨v10, k11, h⟩ := bd h
          have k11 := l_JI_bitCount (d + 5) n e σ x2 _ k11
          refine go_call (kc := 45) (Mc := mt45) (v := some (pvI v10)) (w' := (true, n, e, σ)) (pc' := 61) (st' := [pvI v10]) [pvI x2] [] (Or.inr (Or.inl rfl)) dX10_bridge_58 rfl rm_10_115 mtE45 rfl rfl rfl (Nat.le_of_ble_eq_true rfl) (Or.inl (by decide)) k11 rfl ?_
          refine go_iconst (pc' := 62) dX10_bridge_61 rfl (r32_c rfl) ?_
          obtain ⟨j12, k13, h⟩ := bd h
          have k13J : Go none (Ev (d + 6)) mt44 78 [some (pvR 10 0 0), some (pvI x1), some (pvI x2), some (pvR 0 0 v1.2), some (pvI j4), none] [pvI j12] (true, n, e, σ) (r.1, if r.1 = 0 then some (pvI r.2.1) else none, true, n, e + if r.1 = 0 then 0 else 1, r.2.2) := by
            obtain ⟨v17, k18, h⟩ := bd h
            by_cases c19 : v17 = 0
            · rw [if_pos c19] at h
              have k18 := l_C_need (d + 5) n e σ j12 _ k18
              rw [c19] at k18
              refine go_call (kc := 19) (Mc := mt19) (v := none) (w' := (true, n, e, σ)) (pc' := 81) (st' := []) [pvI j12] [] (Or.inr (Or.inl rfl)) dX10_bridge_78 rfl rm_10_84 mtE19 rfl rfl rfl (Nat.le_of_ble_eq_true rfl) (Or.inl (by decide)) k18 rfl ?_
              refine go_aload_n (pc' := 82) dX10_bridge_81 rfl rfl (Nat.le_of_ble_eq_true rfl) ?_
              refine go_getI (pc' := 85) dX10_bridge_82 rfl rf_10_80 rfl ?_
              refine go_bipush (pc' := 87) dX10_bridge_85 rfl (r32_c rfl) (by decide) ?_
              obtain ⟨j20, k21, h⟩ := bd h
              have k21J : Go none (Ev (d + 6)) mt44 95 [some (pvR 10 0 0), some (pvI x1), some (pvI x2), some (pvR 0 0 v1.2), some (pvI j4), none] [pvI j20] (true, n, e, σ) (r.1, if r.1 = 0 then some (pvI r.2.1) else none, true, n, e + if r.1 = 0 then 0 else 1, r.2.2) := by
                obtain ⟨v22, k23, h⟩ := bd h
                by_cases c24 : v22 = 0
                · rw [if_pos c24] at h
                  have k23 := l_C_need (d + 5) n e σ j20 _ k23
                  rw [c24] at k23
                  refine go_call (kc := 19) (Mc := mt19) (v := none) (w' := (true, n, e, σ)) (pc' := 98) (st' := []) [pvI j20] [] (Or.inr (Or.inl rfl)) dX10_bridge_95 rfl rm_10_84 mtE19 rfl rfl rfl (Nat.le_of_ble_eq_true rfl) (Or.inl (by decide)) k23 rfl ?_
                  refine go_aload_n (pc' := 99) dX10_bridge_98 rfl rfl (Nat.le_of_ble_eq_true rfl) ?_
                  refine go_iload_n (pc' := 100) dX10_bridge_99 rfl rfl ?_
                  obtain ⟨v25, k26, h⟩ := bd h
                  have k26 := l_D_addBridge (d + 4) n e σ v1.2 x2 _ k26
                  refine go_call (kc := 47) (Mc := mt47) (v := some (pvI v25.1)) (w' := (true, n, e, v25.2)) (pc' := 103) (st' := [pvI v25.1]) [pvR 0 0 v1.2, pvI x2] [] (Or.inl rfl) dX10_bridge_100 rfl rm_10_124 mtE47 rfl rfl rfl (Nat.le_of_ble_eq_true rfl) (Or.inr ⟨_, _, v1.2, rfl, Or.inl rfl⟩) k26 rfl ?_
                  refine go_istore (L' := [some (pvR 10 0 0), some (pvI x1), some (pvI x2), some (pvR 0 0 v1.2), some (pvI j4), some (pvI v25.1)]) (pc' := 105) dX10_bridge_103 rfl (Nat.le_of_ble_eq_true rfl) rfl ?_
                  refine go_aload_n (pc' := 106) dX10_bridge_105 rfl rfl (Nat.le_of_ble_eq_true rfl) ?_
                  refine go_getR (k' := 7) (L0 := 0) (P' := 1) (pc' := 109) dX10_bridge_106 rfl rf_10_12 rfl rfl (by omega) ?_
                  obtain ⟨v27, k28, h⟩ := bd h
                  have k28 := l_S_weigh (d + 0) n e v25.2 _ k28
                  refine go_call (kc := 25) (Mc := mt25) (v := none) (w' := (true, n, e, v27)) (pc' := 112) (st' := []) [pvR 7 0 1] [] (Or.inl rfl) dX10_bridge_109 rfl rm_10_102 mtE25 rfl rfl rfl (Nat.le_of_ble_eq_true rfl) (Or.inr ⟨_, _, 1, rfl, Or.inl rfl⟩) k28 rfl ?_
                  refine go_aload_n (pc' := 113) dX10_bridge_112 rfl rfl (Nat.le_of_ble_eq_true rfl) ?_
                  refine go_getR (k' := 3) (L0 := 0) (P' := 108) (pc' := 116) dX10_bridge_113 rfl rf_10_35 rfl rfl (by omega) ?_
                  obtain ⟨v29, k30, h⟩ := bd h
                  have k30 := l_K_dropAll (d + 5) n e v27 _ k30
                  refine go_call (kc := 35) (Mc := mt35) (v := none) (w' := (true, n, e, v29)) (pc' := 119) (st' := []) [pvR 3 0 108] [] (Or.inl rfl) dX10_bridge_116 rfl rm_10_105 mtE35 rfl rfl rfl (Nat.le_of_ble_eq_true rfl) (Or.inr ⟨_, _, 108, rfl, Or.inl rfl⟩) k30 rfl ?_
                  refine go_iload (pc' := 121) dX10_bridge_119 rfl rfl ?_
                  cases h
                  exact go_iret dX10_bridge_121 rfl rfl
                · rw [if_neg c24] at h
                  obtain ⟨g31, h⟩ := gd h
                  cases h
                  have k23 := l_C_need (d + 5) n e σ j20 _ k23
                  simp only [if_neg c24] at k23 ⊢
                  exact go_callX (kc := 19) (Mc := mt19) [pvI j20] [] (Or.inr rfl) dX10_bridge_95 rm_10_84 mtE19 rfl rfl rfl (Nat.le_of_ble_eq_true rfl) (Or.inl (by decide)) rfl c24 g31 k23 rfl
              clear h
              have h := k21
              refine go_icmp_ge (t := 94) (pc' := 90) dX10_bridge_87 rfl rfl (fun c32 => ?_) (fun c32 => ?_)
              · rw [if_pos (show 12 ≤ (σ v1.2 0) from c32)] at h
                refine go_iconst (pc' := 95) dX10_bridge_94 rfl (r32_c rfl) ?_
                cases h
                exact k21J
              · rw [if_neg (show ¬ (12 ≤ (σ v1.2 0)) from c32)] at h
                refine go_iconst (pc' := 91) dX10_bridge_90 rfl (r32_c rfl) ?_
                refine go_goto (t := 95) dX10_bridge_91 rfl ?_
                cases h
                exact k21J
            · rw [if_neg c19] at h
              obtain ⟨g33, h⟩ := gd h
              cases h
              have k18 := l_C_need (d + 5) n e σ j12 _ k18
              simp only [if_neg c19] at k18 ⊢
              exact go_callX (kc := 19) (Mc := mt19) [pvI j12] [] (Or.inr rfl) dX10_bridge_78 rm_10_84 mtE19 rfl rfl rfl (Nat.le_of_ble_eq_true rfl) (Or.inl (by decide)) rfl c19 g33 k18 rfl
          clear h
          have h := k13
          refine go_icmp_gt (t := 77) (pc' := 65) dX10_bridge_62 rfl rfl (fun c34 => ?_) (fun c34 => ?_)
          · rw [if_pos (show 5 < v10 from c34)] at h
            refine go_iconst (pc' := 78) dX10_bridge_77 rfl (r32_c rfl) ?_
            cases h
            exact k13J
          · rw [if_neg (show ¬ (5 < v10) from c34)] at h
            refine go_aload_n (pc' := 66) dX10_bridge_65 rfl rfl (Nat.le_of_ble_eq_true rfl) ?_
            refine go_iload_n (pc' := 67) dX10_bridge_66 rfl rfl ?_
            obtain ⟨v14, k15, h⟩ := bd h
            have k15 := l_D_areAllPlain (d + 3) n e σ v1.2 x2 _ k15
            refine go_call (kc := 46) (Mc := mt46) (v := some (pvI v14)) (w' := (true, n, e, σ)) (pc' := 70) (st' := [pvI v14]) [pvR 0 0 v1.2, pvI x2] [] (Or.inl rfl) dX10_bridge_67 rfl rm_10_121 mtE46 rfl rfl rfl (Nat.le_of_ble_eq_true rfl) (Or.inr ⟨_, _, v1.2, rfl, Or.inl rfl⟩) k15 rfl ?_
            refine go_if_eq (t := 77) (pc' := 73) dX10_bridge_70 rfl rfl (fun c16 => ?_) (fun c16 => ?_)
            · rw [if_pos (show v14 = 0 from c16)] at h
              refine go_iconst (pc' := 78) dX10_bridge_77 rfl (r32_c rfl) ?_
              cases h
              exact k13J
            · rw [if_neg (show ¬ (v14 = 0) from c16)] at h
              refine go_iconst (pc' := 74) dX10_bridge_73 rfl (r32_c rfl) ?_
              refine go_goto (t := 78) dX10_bridge_74 rfl ?_
              cases h
              exact k13J
        · rw [if_neg c9] at h
          obtain ⟨g35, h⟩ := gd h
          cases h
          have k8 := l_C_needRange (d + 5) n e σ x2 1 4095 _ k8
          simp only [if_neg c9] at k8 ⊢
          exact go_callX (kc := 17) (Mc := mt17) [pvI x2, pvI 1, pvI 4095] [] (Or.inr rfl) dX10_bridge_54 rm_10_70 mtE17 rfl rfl rfl (Nat.le_of_ble_eq_true rfl) (Or.inl (by decide)) rfl c9 g35 k8 rfl
      · rw [if_neg (show ¬ (j4 = 0) from c66)] at h
        refine go_iload_n (pc' := 31) dX10_bridge_30 rfl rfl ?_
        refine go_aload_n (pc' := 32) dX10_bridge_31 rfl rfl (Nat.le_of_ble_eq_true rfl) ?_
        refine go_getI (pc' := 35) dX10_bridge_32 rfl rf_10_80 rfl ?_
        refine go_ishr (pc' := 36) dX10_bridge_35 rfl ?_
        refine go_if_eq (t := 49) (pc' := 39) dX10_bridge_36 rfl rfl (fun c65 => ?_) (fun c65 => ?_)
        · rw [if_pos (show (ishr x2 (σ v1.2 0)) = 0 from c65)] at h
          refine go_iload_n (pc' := 50) dX10_bridge_49 rfl rfl ?_
          refine go_iconst (pc' := 51) dX10_bridge_50 rfl (r32_c rfl) ?_
          refine go_sipush (pc' := 54) dX10_bridge_51 rfl (r32_c rfl) (by decide) ?_
          obtain ⟨v36, k37, h⟩ := bd h
          by_cases c38 : v36 = 0
          · rw [if_pos c38] at h
            have k37 := l_C_needRange (d + 5) n e σ x2 1 4095 _ k37
            rw [c38] at k37
            refine go_call (kc := 17) (Mc := mt17) (v := none) (w' := (true, n, e, σ)) (pc' := 57) (st' := []) [pvI x2, pvI 1, pvI 4095] [] (Or.inr (Or.inl rfl)) dX10_bridge_54 rfl rm_10_70 mtE17 rfl rfl rfl (Nat.le_of_ble_eq_true rfl) (Or.inl (by decide)) k37 rfl ?_
            refine go_iload_n (pc' := 58) dX10_bridge_57 rfl rfl ?_
            obtain ⟨v39, k40, h⟩ := bd h
            have k40 := l_JI_bitCount (d + 5) n e σ x2 _ k40
            refine go_call (kc := 45) (Mc := mt45) (v := some (pvI v39)) (w' := (true, n, e, σ)) (pc' := 61) (st' := [pvI v39]) [pvI x2] [] (Or.inr (Or.inl rfl)) dX10_bridge_58 rfl rm_10_115 mtE45 rfl rfl rfl (Nat.le_of_ble_eq_true rfl) (Or.inl (by decide)) k40 rfl ?_
            refine go_iconst (pc' := 62) dX10_bridge_61 rfl (r32_c rfl) ?_
            obtain ⟨j41, k42, h⟩ := bd h
            have k42J : Go none (Ev (d + 6)) mt44 78 [some (pvR 10 0 0), some (pvI x1), some (pvI x2), some (pvR 0 0 v1.2), some (pvI j4), none] [pvI j41] (true, n, e, σ) (r.1, if r.1 = 0 then some (pvI r.2.1) else none, true, n, e + if r.1 = 0 then 0 else 1, r.2.2) := by
              obtain ⟨v46, k47, h⟩ := bd h
              by_cases c48 : v46 = 0
              · rw [if_pos c48] at h
                have k47 := l_C_need (d + 5) n e σ j41 _ k47
                rw [c48] at k47
                refine go_call (kc := 19) (Mc := mt19) (v := none) (w' := (true, n, e, σ)) (pc' := 81) (st' := []) [pvI j41] [] (Or.inr (Or.inl rfl)) dX10_bridge_78 rfl rm_10_84 mtE19 rfl rfl rfl (Nat.le_of_ble_eq_true rfl) (Or.inl (by decide)) k47 rfl ?_
                refine go_aload_n (pc' := 82) dX10_bridge_81 rfl rfl (Nat.le_of_ble_eq_true rfl) ?_
                refine go_getI (pc' := 85) dX10_bridge_82 rfl rf_10_80 rfl ?_
                refine go_bipush (pc' := 87) dX10_bridge_85 rfl (r32_c rfl) (by decide) ?_
                obtain ⟨j49, k50, h⟩ := bd h
                have k50J : Go none (Ev (d + 6)) mt44 95 [some (pvR 10 0 0), some (pvI x1), some (pvI x2), some (pvR 0 0 v1.2), some (pvI j4), none] [pvI j49] (true, n, e, σ) (r.1, if r.1 = 0 then some (pvI r.2.1) else none, true, n, e + if r.1 = 0 then 0 else 1, r.2.2) := by
                  obtain ⟨v51, k52, h⟩ := bd h
                  by_cases c53 : v51 = 0
                  · rw [if_pos c53] at h
                    have k52 := l_C_need (d + 5) n e σ j49 _ k52
                    rw [c53] at k52
                    refine go_call (kc := 19) (Mc := mt19) (v := none) (w' := (true, n, e, σ)) (pc' := 98) (st' := []) [pvI j49] [] (Or.inr (Or.inl rfl)) dX10_bridge_95 rfl rm_10_84 mtE19 rfl rfl rfl (Nat.le_of_ble_eq_true rfl) (Or.inl (by decide)) k52 rfl ?_
                    refine go_aload_n (pc' := 99) dX10_bridge_98 rfl rfl (Nat.le_of_ble_eq_true rfl) ?_
                    refine go_iload_n (pc' := 100) dX10_bridge_99 rfl rfl ?_
                    obtain ⟨v54, k55, h⟩ := bd h
                    have k55 := l_D_addBridge (d + 4) n e σ v1.2 x2 _ k55
                    refine go_call (kc := 47) (Mc := mt47) (v := some (pvI v54.1)) (w' := (true, n, e, v54.2)) (pc' := 103) (st' := [pvI v54.1]) [pvR 0 0 v1.2, pvI x2] [] (Or.inl rfl) dX10_bridge_100 rfl rm_10_124 mtE47 rfl rfl rfl (Nat.le_of_ble_eq_true rfl) (Or.inr ⟨_, _, v1.2, rfl, Or.inl rfl⟩) k55 rfl ?_
                    refine go_istore (L' := [some (pvR 10 0 0), some (pvI x1), some (pvI x2), some (pvR 0 0 v1.2), some (pvI j4), some (pvI v54.1)]) (pc' := 105) dX10_bridge_103 rfl (Nat.le_of_ble_eq_true rfl) rfl ?_
                    refine go_aload_n (pc' := 106) dX10_bridge_105 rfl rfl (Nat.le_of_ble_eq_true rfl) ?_
                    refine go_getR (k' := 7) (L0 := 0) (P' := 1) (pc' := 109) dX10_bridge_106 rfl rf_10_12 rfl rfl (by omega) ?_
                    obtain ⟨v56, k57, h⟩ := bd h
                    have k57 := l_S_weigh (d + 0) n e v54.2 _ k57
                    refine go_call (kc := 25) (Mc := mt25) (v := none) (w' := (true, n, e, v56)) (pc' := 112) (st' := []) [pvR 7 0 1] [] (Or.inl rfl) dX10_bridge_109 rfl rm_10_102 mtE25 rfl rfl rfl (Nat.le_of_ble_eq_true rfl) (Or.inr ⟨_, _, 1, rfl, Or.inl rfl⟩) k57 rfl ?_
                    refine go_aload_n (pc' := 113) dX10_bridge_112 rfl rfl (Nat.le_of_ble_eq_true rfl) ?_
                    refine go_getR (k' := 3) (L0 := 0) (P' := 108) (pc' := 116) dX10_bridge_113 rfl rf_10_35 rfl rfl (by omega) ?_
                    obtain ⟨v58, k59, h⟩ := bd h
                    have k59 := l_K_dropAll (d + 5) n e v56 _ k59
                    refine go_call (kc := 35) (Mc := mt35) (v := none) (w' := (true, n, e, v58)) (pc' := 119) (st' := []) [pvR 3 0 108] [] (Or.inl rfl) dX10_bridge_116 rfl rm_10_105 mtE35 rfl rfl rfl (Nat.le_of_ble_eq_true rfl) (Or.inr ⟨_, _, 108, rfl, Or.inl rfl⟩) k59 rfl ?_
                    refine go_iload (pc' := 121) dX10_bridge_119 rfl rfl ?_
                    cases h
                    exact go_iret dX10_bridge_121 rfl rfl
                  · rw [if_neg c53] at h
                    obtain ⟨g60, h⟩ := gd h
                    cases h
                    have k52 := l_C_need (d + 5) n e σ j49 _ k52
                    simp only [if_neg c53] at k52 ⊢
                    exact go_callX (kc := 19) (Mc := mt19) [pvI j49] [] (Or.inr rfl) dX10_bridge_95 rm_10_84 mtE19 rfl rfl rfl (Nat.le_of_ble_eq_true rfl) (Or.inl (by decide)) rfl c53 g60 k52 rfl
                clear h
                have h := k50
                refine go_icmp_ge (t := 94) (pc' := 90) dX10_bridge_87 rfl rfl (fun c61 => ?_) (fun c61 => ?_)
                · rw [if_pos (show 12 ≤ (σ v1.2 0) from c61)] at h
                  refine go_iconst (pc' := 95) dX10_bridge_94 rfl (r32_c rfl) ?_
                  cases h
                  exact k50J
                · rw [if_neg (show ¬ (12 ≤ (σ v1.2 0)) from c61)] at h
                  refine go_iconst (pc' := 91) dX10_bridge_90 rfl (r32_c rfl) ?_
                  refine go_goto (t := 95) dX10_bridge_91 rfl ?_
                  cases h
                  exact k50J
              · rw [if_neg c48] at h
                obtain ⟨g62, h⟩ := gd h
                cases h
                have k47 := l_C_need (d + 5) n e σ j41 _ k47
                simp only [if_neg c48] at k47 ⊢
                exact go_callX (kc := 19) (Mc := mt19) [pvI j41] [] (Or.inr rfl) dX10_bridge_78 rm_10_84 mtE19 rfl rfl rfl (Nat.le_of_ble_eq_true rfl) (Or.inl (by decide)) rfl c48 g62 k47 rfl
            clear h
            have h := k42
            refine go_icmp_gt (t := 77) (pc' := 65) dX10_bridge_62 rfl rfl (fun c63 => ?_) (fun c63 => ?_)
            · rw [if_pos (show 5 < v39 from c63)] at h
              refine go_iconst (pc' := 78) dX10_bridge_77 rfl (r32_c rfl) ?_
              cases h
              exact k42J
            · rw [if_neg (show ¬ (5 < v39) from c63)] at h
              refine go_aload_n (pc' := 66) dX10_bridge_65 rfl rfl (Nat.le_of_ble_eq_true rfl) ?_
              refine go_iload_n (pc' := 67) dX10_bridge_66 rfl rfl ?_
              obtain ⟨v43, k44, h⟩ := bd h
              have k44 := l_D_areAllPlain (d + 3) n e σ v1.2 x2 _ k44
              refine go_call (kc := 46) (Mc := mt46) (v := some (pvI v43)) (w' := (true, n, e, σ)) (pc' := 70) (st' := [pvI v43]) [pvR 0 0 v1.2, pvI x2] [] (Or.inl rfl) dX10_bridge_67 rfl rm_10_121 mtE46 rfl rfl rfl (Nat.le_of_ble_eq_true rfl) (Or.inr ⟨_, _, v1.2, rfl, Or.inl rfl⟩) k44 rfl ?_
              refine go_if_eq (t := 77) (pc' := 73) dX10_bridge_70 rfl rfl (fun c45 => ?_) (fun c45 => ?_)
              · rw [if_pos (show v43 = 0 from c45)] at h
                refine go_iconst (pc' := 78) dX10_bridge_77 rfl (r32_c rfl) ?_
                cases h
                exact k42J
              · rw [if_neg (show ¬ (v43 = 0) from c45)] at h
                refine go_iconst (pc' := 74) dX10_bridge_73 rfl (r32_c rfl) ?_
                refine go_goto (t := 78) dX10_bridge_74 rfl ?_
                cases h
                exact k42J
          · rw [if_neg c38] at h
            obtain ⟨g64, h⟩ := gd h
            cases h
            have k37 := l_C_needRange (d + 5) n e σ x2 1 4095 _ k37
            simp only [if_neg c38] at k37 ⊢
            exact go_callX (kc := 17) (Mc := mt17) [pvI x2, pvI 1, pvI 4095] [] (Or.inr rfl) dX10_bridge_54 rm_10_70 mtE17 rfl rfl rfl (Nat.le_of_ble_eq_true rfl) (Or.inl (by decide)) rfl c38 g64 k37 rfl
        · rw [if_neg (show ¬ ((ishr x2 (σ v1.2 0)) = 0) from c65)] at h
          cases h
          exact go_throw (x := 1) (ic := 112) (ln := 2) (tx := "no such member") dX10_bridge_39 rt_10_108 rfl rfl (Nat.le_of_ble_eq_true rfl) dX10_bridge_42 (Or.inl ⟨dX10_bridge_43, rfl⟩) dX10_bridge_45 dX10_bridge_48 (Or.inl ⟨rfl, rfl⟩) (by decide +kernel) rfl
    clear h
    have h := k5
    refine go_icmp_lt (t := 22) (pc' := 11) dX10_bridge_8 rfl rfl (fun c67 => ?_) (fun c67 => ?_)
    · rw [if_pos (show x2 < 1 from c67)] at h
      refine go_iconst (pc' := 23) dX10_bridge_22 rfl (r32_c rfl) ?_
      cases h
      exact k5J
    · rw [if_neg (show ¬ (x2 < 1) from c67)] at h
      refine go_iload_n (pc' := 12) dX10_bridge_11 rfl rfl ?_
      refine go_sipush (pc' := 15) dX10_bridge_12 rfl (r32_c rfl) (by decide) ?_
      refine go_icmp_gt (t := 22) (pc' := 18) dX10_bridge_15 rfl rfl (fun c6 => ?_) (fun c6 => ?_)
      · rw [if_pos (show 4095 < x2 from c6)] at h
        refine go_iconst (pc' := 23) dX10_bridge_22 rfl (r32_c rfl) ?_
        cases h
        exact k5J
      · rw [if_neg (show ¬ (4095 < x2) from c6)] at h
        refine go_iconst (pc' := 19) dX10_bridge_18 rfl (r32_c rfl) ?_
        refine go_goto (t := 23) dX10_bridge_19 rfl ?_
        cases h
        exact k5J
  · rw [if_neg c3] at h
    obtain ⟨g68, h⟩ := gd h
    cases h
    have k2 := l_C_existing (d + 4) n e σ x1 _ k2
    simp only [if_neg c3] at k2 ⊢
    exact go_callX (kc := 13) (Mc := mt13) [pvR 10 0 0, pvI x1] [] (Or.inl rfl) dX10_bridge_2 rm_10_62 mtE13 rfl rfl rfl (Nat.le_of_ble_eq_true rfl) (Or.inr ⟨_, _, 0, rfl, Or.inl rfl⟩) rfl c3 g68 k2 rfl

set_option maxRecDepth 10000 in
theorem l_L_bridges (d : Nat) (n e : Nat) (σ : Hp) (x2 : Int) (x3 : Int) (r : Int × Nat × Hp) (h : f_L_bridges σ e x2 x3 = some r) : Ev (d + 8) 43 [pvR 10 0 0, pvI x2, pvI x3] (true, n, e, σ) (0, some (pvI r.1), true, n, r.2.1, r.2.2) := by
  unfold f_L_bridges at h
  refine Ev.of mtE43 rfl rfl rfl rfl ?_
  show Go none (Ev (d + 7)) mt43 0 [some (pvR 10 0 0), some (pvI x2), some (pvI x3), none] [] (true, n, e, σ) (0, some (pvI r.1), true, n, r.2.1, r.2.2)
  refine go_aload_n (pc' := 1) dL_bridges_0 rfl rfl (Nat.le_of_ble_eq_true rfl) ?_
  refine go_iload_n (pc' := 2) dL_bridges_1 rfl rfl ?_
  refine go_iload_n (pc' := 3) dL_bridges_2 rfl rfl ?_
  obtain ⟨v1, k2, h⟩ := bd h
  by_cases c3 : v1.1 = 0
  · rw [if_pos c3] at h
    have k2 := l_C_bridge (d + 0) n e σ x2 x3 _ k2
    rw [c3] at k2
    refine go_call (kc := 44) (Mc := mt44) (v := some (pvI v1.2.1)) (w' := (true, n, e, v1.2.2)) (pc' := 6) (st' := [pvI v1.2.1]) [pvR 10 0 0, pvI x2, pvI x3] [] (Or.inl rfl) dL_bridges_3 rfl rm_12_21 mtE44 rfl rfl rfl (Nat.le_of_ble_eq_true rfl) (Or.inr ⟨_, _, 0, rfl, Or.inl rfl⟩) k2 rfl ?_
    cases h
    exact go_iret dL_bridges_6 rfl rfl
  · rw [if_neg c3] at h
    by_cases c4 : v1.1 = 1
    · rw [if_pos c4] at h
      have k2 := l_C_bridge (d + 0) n e σ x2 x3 _ k2
      rw [c4] at k2
      refine go_callH (x := 1) (kc := 44) (Mc := mt44) (h := 7) (i := 3) (ln := 1) (w' := (true, n, (e + 1), v1.2.2)) (pc' := 8) (L' := [some (pvR 10 0 0), some (pvI x2), some (pvI x3), none]) [pvR 10 0 0, pvI x2, pvI x3] [] (Or.inl rfl) dL_bridges_3 rm_12_21 mtE44 rfl rfl rfl (Nat.le_of_ble_eq_true rfl) (Or.inr ⟨_, _, 0, rfl, Or.inl rfl⟩) (by decide +kernel) (by decide) (by decide) (Or.inr ⟨_, dL_bridges_7, rfl, rfl⟩) (Nat.le_of_ble_eq_true rfl) rfl rfl k2 ?_
      refine go_bipush (pc' := 10) dL_bridges_8 rfl (r32_c rfl) (by decide) ?_
      cases h
      exact go_iret dL_bridges_10 rfl rfl
    · rw [if_neg c4] at h
      by_cases c5 : v1.1 = 2
      · rw [if_pos c5] at h
        have k2 := l_C_bridge (d + 0) n e σ x2 x3 _ k2
        rw [c5] at k2
        refine go_callH (x := 2) (kc := 44) (Mc := mt44) (h := 11) (i := 3) (ln := 1) (w' := (true, n, (e + 1), v1.2.2)) (pc' := 12) (L' := [some (pvR 10 0 0), some (pvI x2), some (pvI x3), none]) [pvR 10 0 0, pvI x2, pvI x3] [] (Or.inl rfl) dL_bridges_3 rm_12_21 mtE44 rfl rfl rfl (Nat.le_of_ble_eq_true rfl) (Or.inr ⟨_, _, 0, rfl, Or.inl rfl⟩) (by decide +kernel) (by decide) (by decide) (Or.inr ⟨_, dL_bridges_11, rfl, rfl⟩) (Nat.le_of_ble_eq_true rfl) rfl rfl k2 ?_
        refine go_bipush (pc' := 14) dL_bridges_12 rfl (r32_c rfl) (by decide) ?_
        cases h
        exact go_iret dL_bridges_14 rfl rfl
      · rw [if_neg c5] at h
        by_cases c6 : v1.1 = 3
        · rw [if_pos c6] at h
          have k2 := l_C_bridge (d + 0) n e σ x2 x3 _ k2
          rw [c6] at k2
          refine go_callH (x := 3) (kc := 44) (Mc := mt44) (h := 15) (i := 3) (ln := 1) (w' := (true, n, (e + 1), v1.2.2)) (pc' := 16) (L' := [some (pvR 10 0 0), some (pvI x2), some (pvI x3), none]) [pvR 10 0 0, pvI x2, pvI x3] [] (Or.inl rfl) dL_bridges_3 rm_12_21 mtE44 rfl rfl rfl (Nat.le_of_ble_eq_true rfl) (Or.inr ⟨_, _, 0, rfl, Or.inl rfl⟩) (by decide +kernel) (by decide) (by decide) (Or.inr ⟨_, dL_bridges_15, rfl, rfl⟩) (Nat.le_of_ble_eq_true rfl) rfl rfl k2 ?_
          refine go_bipush (pc' := 18) dL_bridges_16 rfl (r32_c rfl) (by decide) ?_
          cases h
          exact go_iret dL_bridges_18 rfl rfl
        · rw [if_neg c6] at h
          cases h

set_option maxRecDepth 10000 in
theorem l_F_hasRoomFor (d : Nat) (n e : Nat) (σ : Hp) (x0 : Int) (x1 : Int) (r : Int) (h : f_F_hasRoomFor σ x0 x1 = some r) : Ev (d + 1) 50 [pvF x0, pvI x1] (true, n, e, σ) (0, some (pvI r), true, n, e, σ) := by
  unfold f_F_hasRoomFor at h
  refine Ev.of mtE50 rfl rfl rfl rfl ?_
  show Go none (Ev (d + 0)) mt50 0 [some (pvF x0), some (pvI x1)] [] (true, n, e, σ) (0, some (pvI r), true, n, e, σ)
  refine go_aload_n (pc' := 1) dX2_hasRoomFor_0 rfl rfl (Nat.le_of_ble_eq_true rfl) ?_
  obtain ⟨g1, h⟩ := gd h
  refine go_getIF (pc' := 4) dX2_hasRoomFor_1 rfl rf_2_21 rfl g1 ?_
  refine go_bipush (pc' := 6) dX2_hasRoomFor_4 rfl (r32_c rfl) (by decide) ?_
  obtain ⟨j2, k3, h⟩ := bd h
  have k3J : Go none (Ev (d + 0)) mt50 27 [some (pvF x0), some (pvI x1)] [pvI j2] (true, n, e, σ) (0, some (pvI r), true, n, e, σ) := by
    obtain ⟨g7, h⟩ := gd h
    cases h
    exact go_zret dX2_hasRoomFor_27 rfl g7 rfl
  clear h
  have h := k3
  refine go_icmp_ge (t := 26) (pc' := 9) dX2_hasRoomFor_6 rfl rfl (fun c8 => ?_) (fun c8 => ?_)
  · rw [if_pos (show 10 ≤ (σ (Int.toNat x0) 0) from c8)] at h
    refine go_iconst (pc' := 27) dX2_hasRoomFor_26 rfl (r32_c rfl) ?_
    cases h
    exact k3J
  · rw [if_neg (show ¬ (10 ≤ (σ (Int.toNat x0) 0)) from c8)] at h
    refine go_iload_n (pc' := 10) dX2_hasRoomFor_9 rfl rfl ?_
    refine go_iconst (pc' := 11) dX2_hasRoomFor_10 rfl (r32_c rfl) ?_
    refine go_icmp_le (t := 22) (pc' := 14) dX2_hasRoomFor_11 rfl rfl (fun c6 => ?_) (fun c6 => ?_)
    · rw [if_pos (show x1 ≤ 2 from c6)] at h
      refine go_iconst (pc' := 23) dX2_hasRoomFor_22 rfl (r32_c rfl) ?_
      refine go_goto (t := 27) dX2_hasRoomFor_23 rfl ?_
      cases h
      exact k3J
    · rw [if_neg (show ¬ (x1 ≤ 2) from c6)] at h
      refine go_aload_n (pc' := 15) dX2_hasRoomFor_14 rfl rfl (Nat.le_of_ble_eq_true rfl) ?_
      obtain ⟨g4, h⟩ := gd h
      refine go_getIF (pc' := 18) dX2_hasRoomFor_15 rfl rf_2_25 rfl g4 ?_
      refine go_iconst (pc' := 19) dX2_hasRoomFor_18 rfl (r32_c rfl) ?_
      refine go_icmp_lt (t := 26) (pc' := 22) dX2_hasRoomFor_19 rfl rfl (fun c5 => ?_) (fun c5 => ?_)
      · rw [if_pos (show (σ (Int.toNat x0) 1) < 2 from c5)] at h
        refine go_iconst (pc' := 27) dX2_hasRoomFor_26 rfl (r32_c rfl) ?_
        cases h
        exact k3J
      · rw [if_neg (show ¬ ((σ (Int.toNat x0) 1) < 2) from c5)] at h
        refine go_iconst (pc' := 23) dX2_hasRoomFor_22 rfl (r32_c rfl) ?_
        refine go_goto (t := 27) dX2_hasRoomFor_23 rfl ?_
        cases h
        exact k3J

set_option maxRecDepth 10000 in
theorem l_F_put (d : Nat) (n e : Nat) (σ : Hp) (x0 : Int) (x1 : Int) (x2 : Int) (x3 : Int) (r : Hp) (h : f_F_put σ x0 x1 x2 x3 = some r) : Ev (d + 1) 51 [pvF x0, pvI x1, pvI x2, pvI x3] (true, n, e, σ) (0, none, true, n, e, r) := by
  unfold f_F_put at h
  refine Ev.of mtE51 rfl rfl rfl rfl ?_
  show Go none (Ev (d + 0)) mt51 0 [some (pvF x0), some (pvI x1), some (pvI x2), some (pvI x3)] [] (true, n, e, σ) (0, none, true, n, e, r)
  refine go_aload_n (pc' := 1) dX2_put_0 rfl rfl (Nat.le_of_ble_eq_true rfl) ?_
  obtain ⟨g1, h⟩ := gd h
  refine go_getIF (pc' := 4) dX2_put_1 rfl rf_2_21 rfl g1 ?_
  refine go_bipush (pc' := 6) dX2_put_4 rfl (r32_c rfl) (by decide) ?_
  obtain ⟨j2, k3, h⟩ := bd h
  have k3J : Go none (Ev (d + 0)) mt51 68 [some (pvF x0), some (pvI x1), some (pvI x2), some (pvI x3)] [] (true, n, e, j2) (0, none, true, n, e, r) := by
    cases h
    exact go_vret dX2_put_68 rfl rfl
  clear h
  have h := k3
  refine go_icmp_ge (t := 68) (pc' := 9) dX2_put_6 rfl rfl (fun c22 => ?_) (fun c22 => ?_)
  · rw [if_pos (show 10 ≤ (σ (Int.toNat x0) 0) from c22)] at h
    cases h
    exact k3J
  · rw [if_neg (show ¬ (10 ≤ (σ (Int.toNat x0) 0)) from c22)] at h
    refine go_aload_n (pc' := 10) dX2_put_9 rfl rfl (Nat.le_of_ble_eq_true rfl) ?_
    obtain ⟨g4, h⟩ := gd h
    refine go_getRF (k' := 12) (L0 := 10) (P' := (Int.toNat x0 + 1)) (pc' := 13) dX2_put_10 rfl rf_2_9 rfl rfl g4 (by omega) ?_
    refine go_aload_n (pc' := 14) dX2_put_13 rfl rfl (Nat.le_of_ble_eq_true rfl) ?_
    obtain ⟨g5, h⟩ := gd h
    refine go_getIF (pc' := 17) dX2_put_14 rfl rf_2_21 rfl g5 ?_
    refine go_iload_n (pc' := 18) dX2_put_17 rfl rfl ?_
    obtain ⟨g6, h⟩ := gd h
    refine go_iast (pc' := 19) dX2_put_18 rfl g6 ?_
    refine go_aload_n (pc' := 20) dX2_put_19 rfl rfl (Nat.le_of_ble_eq_true rfl) ?_
    obtain ⟨g7, h⟩ := gd h
    refine go_getRF (k' := 12) (L0 := 10) (P' := (Int.toNat x0 + 2)) (pc' := 23) dX2_put_20 rfl rf_2_15 rfl rfl g7 (by omega) ?_
    refine go_aload_n (pc' := 24) dX2_put_23 rfl rfl (Nat.le_of_ble_eq_true rfl) ?_
    obtain ⟨g8, h⟩ := gd h
    refine go_getIF (pc' := 27) dX2_put_24 rfl rf_2_21 rfl g8 ?_
    refine go_iload_n (pc' := 28) dX2_put_27 rfl rfl ?_
    obtain ⟨g9, h⟩ := gd h
    refine go_iast (pc' := 29) dX2_put_28 rfl g9 ?_
    refine go_aload_n (pc' := 30) dX2_put_29 rfl rfl (Nat.le_of_ble_eq_true rfl) ?_
    obtain ⟨g10, h⟩ := gd h
    refine go_getRF (k' := 12) (L0 := 10) (P' := (Int.toNat x0 + 3)) (pc' := 33) dX2_put_30 rfl rf_2_18 rfl rfl g10 (by omega) ?_
    refine go_aload_n (pc' := 34) dX2_put_33 rfl rfl (Nat.le_of_ble_eq_true rfl) ?_
    obtain ⟨g11, h⟩ := gd h
    refine go_getIF (pc' := 37) dX2_put_34 rfl rf_2_21 rfl g11 ?_
    refine go_iload_n (pc' := 38) dX2_put_37 rfl rfl ?_
    obtain ⟨g12, h⟩ := gd h
    refine go_iast (pc' := 39) dX2_put_38 rfl g12 ?_
    refine go_aload_n (pc' := 40) dX2_put_39 rfl rfl (Nat.le_of_ble_eq_true rfl) ?_
    refine go_dup (pc' := 41) dX2_put_40 rfl (Nat.ne_of_beq_eq_false rfl) ?_
    obtain ⟨g13, h⟩ := gd h
    refine go_getIF (pc' := 44) dX2_put_41 rfl rf_2_21 rfl g13 ?_
    refine go_iconst (pc' := 45) dX2_put_44 rfl (r32_c rfl) ?_
    obtain ⟨g14, h⟩ := gd h
    refine go_iadd (pc' := 46) dX2_put_45 rfl g14 ?_
    obtain ⟨g15, h⟩ := gd h
    refine go_putIF (pc' := 49) dX2_put_46 rfl rf_2_21 rfl g15 ?_
    refine go_aload_n (pc' := 50) dX2_put_49 rfl rfl (Nat.le_of_ble_eq_true rfl) ?_
    refine go_dup (pc' := 51) dX2_put_50 rfl (Nat.ne_of_beq_eq_false rfl) ?_
    obtain ⟨g16, h⟩ := gd h
    refine go_getIF (pc' := 54) dX2_put_51 rfl rf_2_25 rfl g16 ?_
    refine go_iload_n (pc' := 55) dX2_put_54 rfl rfl ?_
    refine go_iconst (pc' := 56) dX2_put_55 rfl (r32_c rfl) ?_
    obtain ⟨j17, k18, h⟩ := bd h
    have k18J : Go none (Ev (d + 0)) mt51 64 [some (pvF x0), some (pvI x1), some (pvI x2), some (pvI x3)] [pvI j17, pvI ((hset (hset (hset (hset σ (Int.toNat x0 + 1) (σ (Int.toNat x0) 0) x1) (Int.toNat x0 + 2) ((hset σ (Int.toNat x0 + 1) (σ (Int.toNat x0) 0) x1) (Int.toNat x0) 0) x2) (Int.toNat x0 + 3) ((hset (hset σ (Int.toNat x0 + 1) (σ (Int.toNat x0) 0) x1) (Int.toNat x0 + 2) ((hset σ (Int.toNat x0 + 1) (σ (Int.toNat x0) 0) x1) (Int.toNat x0) 0) x2) (Int.toNat x0) 0) x3) (Int.toNat x0) 0 (((hset (hset (hset σ (Int.toNat x0 + 1) (σ (Int.toNat x0) 0) x1) (Int.toNat x0 + 2) ((hset σ (Int.toNat x0 + 1) (σ (Int.toNat x0) 0) x1) (Int.toNat x0) 0) x2) (Int.toNat x0 + 3) ((hset (hset σ (Int.toNat x0 + 1) (σ (Int.toNat x0) 0) x1) (Int.toNat x0 + 2) ((hset σ (Int.toNat x0 + 1) (σ (Int.toNat x0) 0) x1) (Int.toNat x0) 0) x2) (Int.toNat x0) 0) x3) (Int.toNat x0) 0) + 1)) (Int.toNat x0) 1), pvF x0] (true, n, e, (hset (hset (hset (hset σ (Int.toNat x0 + 1) (σ (Int.toNat x0) 0) x1) (Int.toNat x0 + 2) ((hset σ (Int.toNat x0 + 1) (σ (Int.toNat x0) 0) x1) (Int.toNat x0) 0) x2) (Int.toNat x0 + 3) ((hset (hset σ (Int.toNat x0 + 1) (σ (Int.toNat x0) 0) x1) (Int.toNat x0 + 2) ((hset σ (Int.toNat x0 + 1) (σ (Int.toNat x0) 0) x1) (Int.toNat x0) 0) x2) (Int.toNat x0) 0) x3) (Int.toNat x0) 0 (((hset (hset (hset σ (Int.toNat x0 + 1) (σ (Int.toNat x0) 0) x1) (Int.toNat x0 + 2) ((hset σ (Int.toNat x0 + 1) (σ (Int.toNat x0) 0) x1) (Int.toNat x0) 0) x2) (Int.toNat x0 + 3) ((hset (hset σ (Int.toNat x0 + 1) (σ (Int.toNat x0) 0) x1) (Int.toNat x0 + 2) ((hset σ (Int.toNat x0 + 1) (σ (Int.toNat x0) 0) x1) (Int.toNat x0) 0) x2) (Int.toNat x0) 0) x3) (Int.toNat x0) 0) + 1))) (0, none, true, n, e, r) := by
      obtain ⟨g19, h⟩ := gd h
      refine go_iadd (pc' := 65) dX2_put_64 rfl g19 ?_
      obtain ⟨g20, h⟩ := gd h
      refine go_putIF (pc' := 68) dX2_put_65 rfl rf_2_25 rfl g20 ?_
      cases h
      exact k3J
    clear h
    have h := k18
    refine go_icmp_gt (t := 63) (pc' := 59) dX2_put_56 rfl rfl (fun c21 => ?_) (fun c21 => ?_)
    · rw [if_pos (show 2 < x1 from c21)] at h
      refine go_iconst (pc' := 64) dX2_put_63 rfl (r32_c rfl) ?_
      cases h
      exact k18J
    · rw [if_neg (show ¬ (2 < x1) from c21)] at h
      refine go_iconst (pc' := 60) dX2_put_59 rfl (r32_c rfl) ?_
      refine go_goto (t := 64) dX2_put_60 rfl ?_
      cases h
      exact k18J

set_option maxRecDepth 10000 in
theorem l_C_word (d : Nat) (n e : Nat) (σ : Hp) (x1 : Int) (x2 : Int) (x3 : Int) (r : Nat × Int × Hp) (h : f_C_word σ x1 x2 x3 = some r) : Ev (d + 2) 49 [pvR 10 0 0, pvI x1, pvI x2, pvI x3] (true, n, e, σ) (r.1, if r.1 = 0 then some (pvI r.2.1) else none, true, n, e + if r.1 = 0 then 0 else 1, r.2.2) := by
  unfold f_C_word at h
  refine Ev.of mtE49 rfl rfl rfl rfl ?_
  show Go none (Ev (d + 1)) mt49 0 [some (pvR 10 0 0), some (pvI x1), some (pvI x2), some (pvI x3)] [] (true, n, e, σ) (r.1, if r.1 = 0 then some (pvI r.2.1) else none, true, n, e + if r.1 = 0 then 0 else 1, r.2.2)
  refine go_iload_n (pc' := 1) dX10_word_0 rfl rfl ?_
  refine go_iconst (pc' := 2) dX10_word_1 rfl (r32_c rfl) ?_
  refine go_bipush (pc' := 4) dX10_word_2 rfl (r32_c rfl) (by decide) ?_
  obtain ⟨v1, k2, h⟩ := bd h
  by_cases c3 : v1 = 0
  · rw [if_pos c3] at h
    have k2 := l_C_needRange (d + 0) n e σ x1 0 6 _ k2
    rw [c3] at k2
    refine go_call (kc := 17) (Mc := mt17) (v := none) (w' := (true, n, e, σ)) (pc' := 7) (st' := []) [pvI x1, pvI 0, pvI 6] [] (Or.inr (Or.inl rfl)) dX10_word_4 rfl rm_10_70 mtE17 rfl rfl rfl (Nat.le_of_ble_eq_true rfl) (Or.inl (by decide)) k2 rfl ?_
    refine go_iload_n (pc' := 8) dX10_word_7 rfl rfl ?_
    obtain ⟨j4, k5, h⟩ := bd h
    have k5J : j4.1 = 0 → Go none (Ev (d + 1)) mt49 19 [some (pvR 10 0 0), some (pvI x1), some (pvI x2), some (pvI x3)] [] (true, n, e, σ) (r.1, if r.1 = 0 then some (pvI r.2.1) else none, true, n, e + if r.1 = 0 then 0 else 1, r.2.2) := by
      intro c43
      rw [if_pos c43] at h
      refine go_iload_n (pc' := 20) dX10_word_19 rfl rfl ?_
      refine go_iconst (pc' := 21) dX10_word_20 rfl (r32_c rfl) ?_
      obtain ⟨j10, k11, h⟩ := bd h
      have k11J : j10.1 = 0 → Go none (Ev (d + 1)) mt49 36 [some (pvR 10 0 0), some (pvI x1), some (pvI x2), some (pvI x3)] [] (true, n, e, σ) (r.1, if r.1 = 0 then some (pvI r.2.1) else none, true, n, e + if r.1 = 0 then 0 else 1, r.2.2) := by
        intro c41
        rw [if_pos c41] at h
        refine go_iload_n (pc' := 37) dX10_word_36 rfl rfl ?_
        refine go_iconst (pc' := 38) dX10_word_37 rfl (r32_c rfl) ?_
        obtain ⟨j21, k22, h⟩ := bd h
        have k22J : j21.1 = 0 → Go none (Ev (d + 1)) mt49 48 [some (pvR 10 0 0), some (pvI x1), some (pvI x2), some (pvI x3)] [] (true, n, e, σ) (r.1, if r.1 = 0 then some (pvI r.2.1) else none, true, n, e + if r.1 = 0 then 0 else 1, r.2.2) := by
          intro c39
          rw [if_pos c39] at h
          refine go_aload_n (pc' := 49) dX10_word_48 rfl rfl (Nat.le_of_ble_eq_true rfl) ?_
          refine go_getF (pc' := 52) dX10_word_49 rfl rf_10_58 rfl ?_
          refine go_iload_n (pc' := 53) dX10_word_52 rfl rfl ?_
          obtain ⟨g27, h⟩ := gd h
          obtain ⟨v28, k29, h⟩ := bd h
          have k29 := l_F_hasRoomFor (d + 0) n e σ (σ 0 6) x1 _ k29
          refine go_call (kc := 50) (Mc := mt50) (v := some (pvI v28)) (w' := (true, n, e, σ)) (pc' := 56) (st' := [pvI v28]) [pvF (σ 0 6), pvI x1] [] (Or.inl rfl) dX10_word_53 rfl rm_10_167 mtE50 rfl rfl rfl (Nat.le_of_ble_eq_true rfl) (Or.inr ⟨_, _, Int.toNat (σ 0 6), rfl, Or.inr ⟨rfl, by rw [Int.toNat_of_nonneg g27]⟩⟩) k29 rfl ?_
          obtain ⟨v30, k31, h⟩ := bd h
          by_cases c32 : v30 = 0
          · rw [if_pos c32] at h
            have k31 := l_C_need (d + 0) n e σ v28 _ k31
            rw [c32] at k31
            refine go_call (kc := 19) (Mc := mt19) (v := none) (w' := (true, n, e, σ)) (pc' := 59) (st' := []) [pvI v28] [] (Or.inr (Or.inl rfl)) dX10_word_56 rfl rm_10_84 mtE19 rfl rfl rfl (Nat.le_of_ble_eq_true rfl) (Or.inl (by decide)) k31 rfl ?_
            refine go_aload_n (pc' := 60) dX10_word_59 rfl rfl (Nat.le_of_ble_eq_true rfl) ?_
            refine go_getF (pc' := 63) dX10_word_60 rfl rf_10_58 rfl ?_
            refine go_iload_n (pc' := 64) dX10_word_63 rfl rfl ?_
            refine go_iload_n (pc' := 65) dX10_word_64 rfl rfl ?_
            refine go_iload_n (pc' := 66) dX10_word_65 rfl rfl ?_
            obtain ⟨g33, h⟩ := gd h
            obtain ⟨v34, k35, h⟩ := bd h
            have k35 := l_F_put (d + 0) n e σ (σ 0 6) x1 x2 x3 _ k35
            refine go_call (kc := 51) (Mc := mt51) (v := none) (w' := (true, n, e, v34)) (pc' := 69) (st' := []) [pvF (σ 0 6), pvI x1, pvI x2, pvI x3] [] (Or.inl rfl) dX10_word_66 rfl rm_10_170 mtE51 rfl rfl rfl (Nat.le_of_ble_eq_true rfl) (Or.inr ⟨_, _, Int.toNat (σ 0 6), rfl, Or.inr ⟨rfl, by rw [Int.toNat_of_nonneg g33]⟩⟩) k35 rfl ?_
            refine go_aload_n (pc' := 70) dX10_word_69 rfl rfl (Nat.le_of_ble_eq_true rfl) ?_
            refine go_getF (pc' := 73) dX10_word_70 rfl rf_10_58 rfl ?_
            obtain ⟨g36, h⟩ := gd h
            refine go_getIF (pc' := 76) dX10_word_73 rfl rf_10_173 rfl g36 ?_
            cases h
            exact go_iret dX10_word_76 rfl rfl
          · rw [if_neg c32] at h
            obtain ⟨g37, h⟩ := gd h
            cases h
            have k31 := l_C_need (d + 0) n e σ v28 _ k31
            simp only [if_neg c32] at k31 ⊢
            exact go_callX (kc := 19) (Mc := mt19) [pvI v28] [] (Or.inr rfl) dX10_word_56 rm_10_84 mtE19 rfl rfl rfl (Nat.le_of_ble_eq_true rfl) (Or.inl (by decide)) rfl c32 g37 k31 rfl
        have k22X : j21.1 ≠ 0 → r = (j21.1, 0, σ) := by
          intro c39
          rw [if_neg c39] at h
          cases h
          rfl
        clear h
        have h := k22
        refine go_icmp_ne (t := 48) (pc' := 41) dX10_word_38 rfl rfl (fun c38 => ?_) (fun c38 => ?_)
        · rw [if_pos (show x1 ≠ 1 from c38)] at h
          cases h
          exact (k22J rfl)
        · rw [if_neg (show ¬ (x1 ≠ 1) from c38)] at h
          refine go_iload_n (pc' := 42) dX10_word_41 rfl rfl ?_
          refine go_iconst (pc' := 43) dX10_word_42 rfl (r32_c rfl) ?_
          refine go_bipush (pc' := 45) dX10_word_43 rfl (r32_c rfl) (by decide) ?_
          obtain ⟨v23, k24, h⟩ := bd h
          by_cases c25 : v23 = 0
          · rw [if_pos c25] at h
            have k24 := l_C_needRange (d + 0) n e σ x3 0 11 _ k24
            rw [c25] at k24
            refine go_call (kc := 17) (Mc := mt17) (v := none) (w' := (true, n, e, σ)) (pc' := 48) (st' := []) [pvI x3, pvI 0, pvI 11] [] (Or.inr (Or.inl rfl)) dX10_word_45 rfl rm_10_70 mtE17 rfl rfl rfl (Nat.le_of_ble_eq_true rfl) (Or.inl (by decide)) k24 rfl ?_
            cases h
            exact (k22J rfl)
          · rw [if_neg c25] at h
            obtain ⟨g26, h⟩ := gd h
            cases h
            have hr : r = (v23, 0, σ) := k22X c25
            subst hr
            have k24 := l_C_needRange (d + 0) n e σ x3 0 11 _ k24
            simp only [if_neg c25] at k24 ⊢
            exact go_callX (kc := 17) (Mc := mt17) [pvI x3, pvI 0, pvI 11] [] (Or.inr rfl) dX10_word_45 rm_10_70 mtE17 rfl rfl rfl (Nat.le_of_ble_eq_true rfl) (Or.inl (by decide)) rfl c25 g26 k24 rfl
      have k11X : j10.1 ≠ 0 → r = (j10.1, 0, σ) := by
        intro c41
        rw [if_neg c41] at h
        cases h
        rfl
      clear h
      have h := k11
      refine go_icmp_eq (t := 29) (pc' := 24) dX10_word_21 rfl rfl (fun c40 => ?_) (fun c40 => ?_)
      · rw [if_pos (show x1 = 1 from c40)] at h
        refine go_iload_n (pc' := 30) dX10_word_29 rfl rfl ?_
        refine go_iconst (pc' := 31) dX10_word_30 rfl (r32_c rfl) ?_
        refine go_bipush (pc' := 33) dX10_word_31 rfl (r32_c rfl) (by decide) ?_
        obtain ⟨v12, k13, h⟩ := bd h
        by_cases c14 : v12 = 0
        · rw [if_pos c14] at h
          have k13 := l_C_needRange (d + 0) n e σ x2 0 11 _ k13
          rw [c14] at k13
          refine go_call (kc := 17) (Mc := mt17) (v := none) (w' := (true, n, e, σ)) (pc' := 36) (st' := []) [pvI x2, pvI 0, pvI 11] [] (Or.inr (Or.inl rfl)) dX10_word_33 rfl rm_10_70 mtE17 rfl rfl rfl (Nat.le_of_ble_eq_true rfl) (Or.inl (by decide)) k13 rfl ?_
          cases h
          exact (k11J rfl)
        · rw [if_neg c14] at h
          obtain ⟨g15, h⟩ := gd h
          cases h
          have hr : r = (v12, 0, σ) := k11X c14
          subst hr
          have k13 := l_C_needRange (d + 0) n e σ x2 0 11 _ k13
          simp only [if_neg c14] at k13 ⊢
          exact go_callX (kc := 17) (Mc := mt17) [pvI x2, pvI 0, pvI 11] [] (Or.inr rfl) dX10_word_33 rm_10_70 mtE17 rfl rfl rfl (Nat.le_of_ble_eq_true rfl) (Or.inl (by decide)) rfl c14 g15 k13 rfl
      · rw [if_neg (show ¬ (x1 = 1) from c40)] at h
        refine go_iload_n (pc' := 25) dX10_word_24 rfl rfl ?_
        refine go_iconst (pc' := 26) dX10_word_25 rfl (r32_c rfl) ?_
        refine go_icmp_ne (t := 36) (pc' := 29) dX10_word_26 rfl rfl (fun c20 => ?_) (fun c20 => ?_)
        · rw [if_pos (show x1 ≠ 2 from c20)] at h
          cases h
          exact (k11J rfl)
        · rw [if_neg (show ¬ (x1 ≠ 2) from c20)] at h
          refine go_iload_n (pc' := 30) dX10_word_29 rfl rfl ?_
          refine go_iconst (pc' := 31) dX10_word_30 rfl (r32_c rfl) ?_
          refine go_bipush (pc' := 33) dX10_word_31 rfl (r32_c rfl) (by decide) ?_
          obtain ⟨v16, k17, h⟩ := bd h
          by_cases c18 : v16 = 0
          · rw [if_pos c18] at h
            have k17 := l_C_needRange (d + 0) n e σ x2 0 11 _ k17
            rw [c18] at k17
            refine go_call (kc := 17) (Mc := mt17) (v := none) (w' := (true, n, e, σ)) (pc' := 36) (st' := []) [pvI x2, pvI 0, pvI 11] [] (Or.inr (Or.inl rfl)) dX10_word_33 rfl rm_10_70 mtE17 rfl rfl rfl (Nat.le_of_ble_eq_true rfl) (Or.inl (by decide)) k17 rfl ?_
            cases h
            exact (k11J rfl)
          · rw [if_neg c18] at h
            obtain ⟨g19, h⟩ := gd h
            cases h
            have hr : r = (v16, 0, σ) := k11X c18
            subst hr
            have k17 := l_C_needRange (d + 0) n e σ x2 0 11 _ k17
            simp only [if_neg c18] at k17 ⊢
            exact go_callX (kc := 17) (Mc := mt17) [pvI x2, pvI 0, pvI 11] [] (Or.inr rfl) dX10_word_33 rm_10_70 mtE17 rfl rfl rfl (Nat.le_of_ble_eq_true rfl) (Or.inl (by decide)) rfl c18 g19 k17 rfl
    have k5X : j4.1 ≠ 0 → r = (j4.1, 0, σ) := by
      intro c43
      rw [if_neg c43] at h
      cases h
      rfl
    clear h
    have h := k5
    refine go_if_ne (t := 19) (pc' := 11) dX10_word_8 rfl rfl (fun c42 => ?_) (fun c42 => ?_)
    · rw [if_pos (show x1 ≠ 0 from c42)] at h
      cases h
      exact (k5J rfl)
    · rw [if_neg (show ¬ (x1 ≠ 0) from c42)] at h
      refine go_iload_n (pc' := 12) dX10_word_11 rfl rfl ?_
      refine go_ldc (pc' := 14) dX10_word_12 rfl (r32_c rfl) rc_10_165 ?_
      refine go_ldc (pc' := 16) dX10_word_14 rfl (r32_c rfl) rc_10_166 ?_
      obtain ⟨v6, k7, h⟩ := bd h
      by_cases c8 : v6 = 0
      · rw [if_pos c8] at h
        have k7 := l_C_needRange (d + 0) n e σ x2 (-1000000) 1000000 _ k7
        rw [c8] at k7
        refine go_call (kc := 17) (Mc := mt17) (v := none) (w' := (true, n, e, σ)) (pc' := 19) (st' := []) [pvI x2, pvI (-1000000), pvI 1000000] [] (Or.inr (Or.inl rfl)) dX10_word_16 rfl rm_10_70 mtE17 rfl rfl rfl (Nat.le_of_ble_eq_true rfl) (Or.inl (by decide)) k7 rfl ?_
        cases h
        exact (k5J rfl)
      · rw [if_neg c8] at h
        obtain ⟨g9, h⟩ := gd h
        cases h
        have hr : r = (v6, 0, σ) := k5X c8
        subst hr
        have k7 := l_C_needRange (d + 0) n e σ x2 (-1000000) 1000000 _ k7
        simp only [if_neg c8] at k7 ⊢
        exact go_callX (kc := 17) (Mc := mt17) [pvI x2, pvI (-1000000), pvI 1000000] [] (Or.inr rfl) dX10_word_16 rm_10_70 mtE17 rfl rfl rfl (Nat.le_of_ble_eq_true rfl) (Or.inl (by decide)) rfl c8 g9 k7 rfl
  · rw [if_neg c3] at h
    obtain ⟨g44, h⟩ := gd h
    cases h
    have k2 := l_C_needRange (d + 0) n e σ x1 0 6 _ k2
    simp only [if_neg c3] at k2 ⊢
    exact go_callX (kc := 17) (Mc := mt17) [pvI x1, pvI 0, pvI 6] [] (Or.inr rfl) dX10_word_4 rm_10_70 mtE17 rfl rfl rfl (Nat.le_of_ble_eq_true rfl) (Or.inl (by decide)) rfl c3 g44 k2 rfl

set_option maxRecDepth 10000 in
theorem l_L_words (d : Nat) (n e : Nat) (σ : Hp) (x2 : Int) (x3 : Int) (x4 : Int) (r : Int × Nat × Hp) (h : f_L_words σ e x2 x3 x4 = some r) : Ev (d + 3) 48 [pvR 10 0 0, pvI x2, pvI x3, pvI x4] (true, n, e, σ) (0, some (pvI r.1), true, n, r.2.1, r.2.2) := by
  unfold f_L_words at h
  refine Ev.of mtE48 rfl rfl rfl rfl ?_
  show Go none (Ev (d + 2)) mt48 0 [some (pvR 10 0 0), some (pvI x2), some (pvI x3), some (pvI x4), none] [] (true, n, e, σ) (0, some (pvI r.1), true, n, r.2.1, r.2.2)
  refine go_aload_n (pc' := 1) dL_words_0 rfl rfl (Nat.le_of_ble_eq_true rfl) ?_
  refine go_iload_n (pc' := 2) dL_words_1 rfl rfl ?_
  refine go_iload_n (pc' := 3) dL_words_2 rfl rfl ?_
  refine go_iload_n (pc' := 4) dL_words_3 rfl rfl ?_
  obtain ⟨v1, k2, h⟩ := bd h
  by_cases c3 : v1.1 = 0
  · rw [if_pos c3] at h
    have k2 := l_C_word (d + 0) n e σ x2 x3 x4 _ k2
    rw [c3] at k2
    refine go_call (kc := 49) (Mc := mt49) (v := some (pvI v1.2.1)) (w' := (true, n, e, v1.2.2)) (pc' := 7) (st' := [pvI v1.2.1]) [pvR 10 0 0, pvI x2, pvI x3, pvI x4] [] (Or.inl rfl) dL_words_4 rfl rm_12_29 mtE49 rfl rfl rfl (Nat.le_of_ble_eq_true rfl) (Or.inr ⟨_, _, 0, rfl, Or.inl rfl⟩) k2 rfl ?_
    cases h
    exact go_iret dL_words_7 rfl rfl
  · rw [if_neg c3] at h
    by_cases c4 : v1.1 = 2
    · rw [if_pos c4] at h
      have k2 := l_C_word (d + 0) n e σ x2 x3 x4 _ k2
      rw [c4] at k2
      refine go_callH (x := 2) (kc := 49) (Mc := mt49) (h := 8) (i := 4) (ln := 2) (w' := (true, n, (e + 1), v1.2.2)) (pc' := 10) (L' := [some (pvR 10 0 0), some (pvI x2), some (pvI x3), some (pvI x4), none]) [pvR 10 0 0, pvI x2, pvI x3, pvI x4] [] (Or.inl rfl) dL_words_4 rm_12_29 mtE49 rfl rfl rfl (Nat.le_of_ble_eq_true rfl) (Or.inr ⟨_, _, 0, rfl, Or.inl rfl⟩) (by decide +kernel) (by decide) (by decide) (Or.inl ⟨dL_words_8, rfl⟩) (Nat.le_of_ble_eq_true rfl) rfl rfl k2 ?_
      refine go_bipush (pc' := 12) dL_words_10 rfl (r32_c rfl) (by decide) ?_
      cases h
      exact go_iret dL_words_12 rfl rfl
    · rw [if_neg c4] at h
      by_cases c5 : v1.1 = 3
      · rw [if_pos c5] at h
        have k2 := l_C_word (d + 0) n e σ x2 x3 x4 _ k2
        rw [c5] at k2
        refine go_callH (x := 3) (kc := 49) (Mc := mt49) (h := 13) (i := 4) (ln := 2) (w' := (true, n, (e + 1), v1.2.2)) (pc' := 15) (L' := [some (pvR 10 0 0), some (pvI x2), some (pvI x3), some (pvI x4), none]) [pvR 10 0 0, pvI x2, pvI x3, pvI x4] [] (Or.inl rfl) dL_words_4 rm_12_29 mtE49 rfl rfl rfl (Nat.le_of_ble_eq_true rfl) (Or.inr ⟨_, _, 0, rfl, Or.inl rfl⟩) (by decide +kernel) (by decide) (by decide) (Or.inl ⟨dL_words_13, rfl⟩) (Nat.le_of_ble_eq_true rfl) rfl rfl k2 ?_
        refine go_bipush (pc' := 17) dL_words_15 rfl (r32_c rfl) (by decide) ?_
        cases h
        exact go_iret dL_words_17 rfl rfl
      · rw [if_neg c5] at h
        cases h

set_option maxRecDepth 10000 in
theorem l_F_looksBeyond_2 (d : Nat) (n : Nat) (e : Nat) (σ : Hp) (x0 : Int) (x1 : Int) : ∀ (F : Nat) (y1 : Int) (r : Int), f_F_looksBeyond_2 σ x0 x1 F y1 = some r → Go none (Ev (d + 0)) mt54 2 [some (pvF x0), some (pvI x1), some (pvI y1)] [] (true, n, e, σ) (0, some (pvI r), true, n, e, σ) := by
  intro F
  induction F with
  | zero =>
    intro _ _ h
    rw [f_F_looksBeyond_2] at h
    cases h
  | succ F ih =>
    intro y1 r h
    rw [f_F_looksBeyond_2] at h
    refine go_iload_n (pc' := 3) dX2_looksBeyond_2 rfl rfl ?_
    refine go_aload_n (pc' := 4) dX2_looksBeyond_3 rfl rfl (Nat.le_of_ble_eq_true rfl) ?_
    obtain ⟨g2, h⟩ := gd h
    refine go_getIF (pc' := 7) dX2_looksBeyond_4 rfl rf_2_21 rfl g2 ?_
    refine go_icmp_ge (t := 48) (pc' := 10) dX2_looksBeyond_7 rfl rfl (fun c21 => ?_) (fun c21 => ?_)
    · rw [if_pos (show (σ (Int.toNat x0) 0) ≤ y1 from c21)] at h
      refine go_iconst (pc' := 49) dX2_looksBeyond_48 rfl (r32_c rfl) ?_
      obtain ⟨g3, h⟩ := gd h
      cases h
      exact go_zret dX2_looksBeyond_49 rfl g3 rfl
    · rw [if_neg (show ¬ ((σ (Int.toNat x0) 0) ≤ y1) from c21)] at h
      refine go_aload_n (pc' := 11) dX2_looksBeyond_10 rfl rfl (Nat.le_of_ble_eq_true rfl) ?_
      obtain ⟨g4, h⟩ := gd h
      refine go_getRF (k' := 12) (L0 := 10) (P' := (Int.toNat x0 + 1)) (pc' := 14) dX2_looksBeyond_11 rfl rf_2_9 rfl rfl g4 (by omega) ?_
      refine go_iload_n (pc' := 15) dX2_looksBeyond_14 rfl rfl ?_
      obtain ⟨g5, h⟩ := gd h
      refine go_iald (pc' := 16) dX2_looksBeyond_15 rfl g5 ?_
      refine go_iconst (pc' := 17) dX2_looksBeyond_16 rfl (r32_c rfl) ?_
      refine go_icmp_eq (t := 30) (pc' := 20) dX2_looksBeyond_17 rfl rfl (fun c20 => ?_) (fun c20 => ?_)
      · rw [if_pos (show (σ (Int.toNat x0 + 1) y1) = 1 from c20)] at h
        refine go_aload_n (pc' := 31) dX2_looksBeyond_30 rfl rfl (Nat.le_of_ble_eq_true rfl) ?_
        obtain ⟨g6, h⟩ := gd h
        refine go_getRF (k' := 12) (L0 := 10) (P' := (Int.toNat x0 + 2)) (pc' := 34) dX2_looksBeyond_31 rfl rf_2_15 rfl rfl g6 (by omega) ?_
        refine go_iload_n (pc' := 35) dX2_looksBeyond_34 rfl rfl ?_
        obtain ⟨g7, h⟩ := gd h
        refine go_iald (pc' := 36) dX2_looksBeyond_35 rfl g7 ?_
        refine go_iload_n (pc' := 37) dX2_looksBeyond_36 rfl rfl ?_
        refine go_icmp_lt (t := 42) (pc' := 40) dX2_looksBeyond_37 rfl rfl (fun c10 => ?_) (fun c10 => ?_)
        · rw [if_pos (show (σ (Int.toNat x0 + 2) y1) < x1 from c10)] at h
          obtain ⟨g8, h⟩ := gd h
          refine go_iinc (L' := [some (pvF x0), some (pvI x1), some (pvI (y1 + 1))]) (pc' := 45) dX2_looksBeyond_42 rfl rfl g8 rfl ?_
          refine go_goto (t := 2) dX2_looksBeyond_45 rfl ?_
          exact ih (y1 + 1) _ h
        · rw [if_neg (show ¬ ((σ (Int.toNat x0 + 2) y1) < x1) from c10)] at h
          refine go_iconst (pc' := 41) dX2_looksBeyond_40 rfl (r32_c rfl) ?_
          obtain ⟨g9, h⟩ := gd h
          cases h
          exact go_zret dX2_looksBeyond_41 rfl g9 rfl
      · rw [if_neg (show ¬ ((σ (Int.toNat x0 + 1) y1) = 1) from c20)] at h
        refine go_aload_n (pc' := 21) dX2_looksBeyond_20 rfl rfl (Nat.le_of_ble_eq_true rfl) ?_
        obtain ⟨g11, h⟩ := gd h
        refine go_getRF (k' := 12) (L0 := 10) (P' := (Int.toNat x0 + 1)) (pc' := 24) dX2_looksBeyond_21 rfl rf_2_9 rfl rfl g11 (by omega) ?_
        refine go_iload_n (pc' := 25) dX2_looksBeyond_24 rfl rfl ?_
        obtain ⟨g12, h⟩ := gd h
        refine go_iald (pc' := 26) dX2_looksBeyond_25 rfl g12 ?_
        refine go_iconst (pc' := 27) dX2_looksBeyond_26 rfl (r32_c rfl) ?_
        refine go_icmp_ne (t := 42) (pc' := 30) dX2_looksBeyond_27 rfl rfl (fun c19 => ?_) (fun c19 => ?_)
        · rw [if_pos (show (σ (Int.toNat x0 + 1) y1) ≠ 2 from c19)] at h
          obtain ⟨g13, h⟩ := gd h
          refine go_iinc (L' := [some (pvF x0), some (pvI x1), some (pvI (y1 + 1))]) (pc' := 45) dX2_looksBeyond_42 rfl rfl g13 rfl ?_
          refine go_goto (t := 2) dX2_looksBeyond_45 rfl ?_
          exact ih (y1 + 1) _ h
        · rw [if_neg (show ¬ ((σ (Int.toNat x0 + 1) y1) ≠ 2) from c19)] at h
          refine go_aload_n (pc' := 31) dX2_looksBeyond_30 rfl rfl (Nat.le_of_ble_eq_true rfl) ?_
          obtain ⟨g14, h⟩ := gd h
          refine go_getRF (k' := 12) (L0 := 10) (P' := (Int.toNat x0 + 2)) (pc' := 34) dX2_looksBeyond_31 rfl rf_2_15 rfl rfl g14 (by omega) ?_
          refine go_iload_n (pc' := 35) dX2_looksBeyond_34 rfl rfl ?_
          obtain ⟨g15, h⟩ := gd h
          refine go_iald (pc' := 36) dX2_looksBeyond_35 rfl g15 ?_
          refine go_iload_n (pc' := 37) dX2_looksBeyond_36 rfl rfl ?_
          refine go_icmp_lt (t := 42) (pc' := 40) dX2_looksBeyond_37 rfl rfl (fun c18 => ?_) (fun c18 => ?_)
          · rw [if_pos (show (σ (Int.toNat x0 + 2) y1) < x1 from c18)] at h
            obtain ⟨g16, h⟩ := gd h
            refine go_iinc (L' := [some (pvF x0), some (pvI x1), some (pvI (y1 + 1))]) (pc' := 45) dX2_looksBeyond_42 rfl rfl g16 rfl ?_
            refine go_goto (t := 2) dX2_looksBeyond_45 rfl ?_
            exact ih (y1 + 1) _ h
          · rw [if_neg (show ¬ ((σ (Int.toNat x0 + 2) y1) < x1) from c18)] at h
            refine go_iconst (pc' := 41) dX2_looksBeyond_40 rfl (r32_c rfl) ?_
            obtain ⟨g17, h⟩ := gd h
            cases h
            exact go_zret dX2_looksBeyond_41 rfl g17 rfl

set_option maxRecDepth 10000 in
theorem l_F_looksBeyond (d : Nat) (n e : Nat) (σ : Hp) (x0 : Int) (x1 : Int) (r : Int) (h : f_F_looksBeyond σ x0 x1 = some r) : Ev (d + 1) 54 [pvF x0, pvI x1] (true, n, e, σ) (0, some (pvI r), true, n, e, σ) := by
  unfold f_F_looksBeyond at h
  refine Ev.of mtE54 rfl rfl rfl rfl ?_
  show Go none (Ev (d + 0)) mt54 0 [some (pvF x0), some (pvI x1), none] [] (true, n, e, σ) (0, some (pvI r), true, n, e, σ)
  refine go_iconst (pc' := 1) dX2_looksBeyond_0 rfl (r32_c rfl) ?_
  refine go_istore_n (L' := [some (pvF x0), some (pvI x1), some (pvI 0)]) (pc' := 2) dX2_looksBeyond_1 rfl (Nat.le_of_ble_eq_true rfl) rfl ?_
  exact l_F_looksBeyond_2 d n e σ x0 x1 zFuel 0 _ h

set_option maxRecDepth 10000 in
theorem l_D_addCalculated (d : Nat) (n e : Nat) (σ : Hp) (p : Nat) (x1 : Int) (x2 : Int) (r : Int × Hp) (h : f_D_addCalculated σ p x1 x2 = some r) : Ev (d + 2) 55 [pvR 0 0 p, pvF x1, pvI x2] (true, n, e, σ) (0, some (pvI r.1), true, n, e, r.2) := by
  unfold f_D_addCalculated at h
  refine Ev.of mtE55 rfl rfl rfl rfl ?_
  show Go none (Ev (d + 1)) mt55 0 [some (pvR 0 0 p), some (pvF x1), some (pvI x2), none] [] (true, n, e, σ) (0, some (pvI r.1), true, n, e, r.2)
  refine go_aload_n (pc' := 1) dX0_addCalculated_0 rfl rfl (Nat.le_of_ble_eq_true rfl) ?_
  refine go_iconst (pc' := 2) dX0_addCalculated_1 rfl (r32_c rfl) ?_
  obtain ⟨v1, k2, h⟩ := bd h
  have k2 := l_D_addKind (d + 0) n e σ p 2 _ k2
  refine go_call (kc := 21) (Mc := mt21) (v := some (pvI v1.1)) (w' := (true, n, e, v1.2)) (pc' := 5) (st' := [pvI v1.1]) [pvR 0 0 p, pvI 2] [] (Or.inl rfl) dX0_addCalculated_2 rfl rm_0_72 mtE21 rfl rfl rfl (Nat.le_of_ble_eq_true rfl) (Or.inr ⟨_, _, p, rfl, Or.inl rfl⟩) k2 rfl ?_
  refine go_istore_n (L' := [some (pvR 0 0 p), some (pvF x1), some (pvI x2), some (pvI v1.1)]) (pc' := 6) dX0_addCalculated_5 rfl (Nat.le_of_ble_eq_true rfl) rfl ?_
  refine go_aload_n (pc' := 7) dX0_addCalculated_6 rfl rfl (Nat.le_of_ble_eq_true rfl) ?_
  refine go_iload_n (pc' := 8) dX0_addCalculated_7 rfl rfl ?_
  obtain ⟨v3, k4, h⟩ := bd h
  have k4 := l_D_has (d + 0) n e v1.2 p v1.1 _ k4
  refine go_call (kc := 16) (Mc := mt16) (v := some (pvI v3)) (w' := (true, n, e, v1.2)) (pc' := 11) (st' := [pvI v3]) [pvR 0 0 p, pvI v1.1] [] (Or.inl rfl) dX0_addCalculated_8 rfl rm_0_65 mtE16 rfl rfl rfl (Nat.le_of_ble_eq_true rfl) (Or.inr ⟨_, _, p, rfl, Or.inl rfl⟩) k4 rfl ?_
  obtain ⟨j5, k6, h⟩ := bd h
  have k6J : Go none (Ev (d + 1)) mt55 35 [some (pvR 0 0 p), some (pvF x1), some (pvI x2), some (pvI v1.1)] [] (true, n, e, j5) (0, some (pvI r.1), true, n, e, r.2) := by
    refine go_iload_n (pc' := 36) dX0_addCalculated_35 rfl rfl ?_
    cases h
    exact go_iret dX0_addCalculated_36 rfl rfl
  clear h
  have h := k6
  refine go_if_eq (t := 35) (pc' := 14) dX0_addCalculated_11 rfl rfl (fun c12 => ?_) (fun c12 => ?_)
  · rw [if_pos (show v3 = 0 from c12)] at h
    cases h
    exact k6J
  · rw [if_neg (show ¬ (v3 = 0) from c12)] at h
    refine go_aload_n (pc' := 15) dX0_addCalculated_14 rfl rfl (Nat.le_of_ble_eq_true rfl) ?_
    refine go_getR (k' := 15) (L0 := 12) (P' := (p + 11)) (pc' := 18) dX0_addCalculated_15 rfl rf_0_44 rfl rfl (by omega) ?_
    refine go_iload_n (pc' := 19) dX0_addCalculated_18 rfl rfl ?_
    refine go_aload_n (pc' := 20) dX0_addCalculated_19 rfl rfl (Nat.le_of_ble_eq_true rfl) ?_
    obtain ⟨g7, h⟩ := gd h
    obtain ⟨g8, h⟩ := gd h
    refine go_fast (pc' := 21) dX0_addCalculated_20 rfl g7 g8 ?_
    refine go_aload_n (pc' := 22) dX0_addCalculated_21 rfl rfl (Nat.le_of_ble_eq_true rfl) ?_
    refine go_getR (k' := 12) (L0 := 12) (P' := (p + 9)) (pc' := 25) dX0_addCalculated_22 rfl rf_0_35 rfl rfl (by omega) ?_
    refine go_iload_n (pc' := 26) dX0_addCalculated_25 rfl rfl ?_
    refine go_iload_n (pc' := 27) dX0_addCalculated_26 rfl rfl ?_
    obtain ⟨g9, h⟩ := gd h
    refine go_iast (pc' := 28) dX0_addCalculated_27 rfl g9 ?_
    refine go_aload_n (pc' := 29) dX0_addCalculated_28 rfl rfl (Nat.le_of_ble_eq_true rfl) ?_
    refine go_getR (k' := 14) (L0 := 12) (P' := (p + 15)) (pc' := 32) dX0_addCalculated_29 rfl rf_0_57 rfl rfl (by omega) ?_
    refine go_iload_n (pc' := 33) dX0_addCalculated_32 rfl rfl ?_
    refine go_iconst (pc' := 34) dX0_addCalculated_33 rfl (r32_c rfl) ?_
    obtain ⟨g10, h⟩ := gd h
    obtain ⟨g11, h⟩ := gd h
    refine go_zast (pc' := 35) dX0_addCalculated_34 rfl g10 g11 ?_
    cases h
    exact k6J

set_option maxRecDepth 10000 in
theorem l_C_calculate (d : Nat) (n e : Nat) (σ : Hp) (x1 : Int) (x2 : Int) (r : Nat × Int × Nat × Hp) (h : f_C_calculate σ n x1 x2 = some r) : Ev (d + 3) 53 [pvR 10 0 0, pvI x1, pvI x2] (true, n, e, σ) (r.1, if r.1 = 0 then some (pvI r.2.1) else none, true, r.2.2.1, e + if r.1 = 0 then 0 else 1, r.2.2.2) := by
  unfold f_C_calculate at h
  refine Ev.of mtE53 rfl rfl rfl rfl ?_
  show Go none (Ev (d + 2)) mt53 0 [some (pvR 10 0 0), some (pvI x1), some (pvI x2), none, none] [] (true, n, e, σ) (r.1, if r.1 = 0 then some (pvI r.2.1) else none, true, r.2.2.1, e + if r.1 = 0 then 0 else 1, r.2.2.2)
  refine go_aload_n (pc' := 1) dX10_calculate_0 rfl rfl (Nat.le_of_ble_eq_true rfl) ?_
  refine go_iload_n (pc' := 2) dX10_calculate_1 rfl rfl ?_
  obtain ⟨v1, k2, h⟩ := bd h
  by_cases c3 : v1.1 = 0
  · rw [if_pos c3] at h
    have k2 := l_C_existing (d + 0) n e σ x1 _ k2
    rw [c3] at k2
    refine go_call (kc := 13) (Mc := mt13) (v := some (pvR 0 0 v1.2)) (w' := (true, n, e, σ)) (pc' := 5) (st' := [pvR 0 0 v1.2]) [pvR 10 0 0, pvI x1] [] (Or.inl rfl) dX10_calculate_2 rfl rm_10_62 mtE13 rfl rfl rfl (Nat.le_of_ble_eq_true rfl) (Or.inr ⟨_, _, 0, rfl, Or.inl rfl⟩) k2 rfl ?_
    refine go_astore_n (L' := [some (pvR 10 0 0), some (pvI x1), some (pvI x2), some (pvR 0 0 v1.2), none]) (pc' := 6) dX10_calculate_5 rfl (Nat.le_of_ble_eq_true rfl) (Nat.le_of_ble_eq_true rfl) rfl ?_
    refine go_iload_n (pc' := 7) dX10_calculate_6 rfl rfl ?_
    refine go_iconst (pc' := 8) dX10_calculate_7 rfl (r32_c rfl) ?_
    refine go_bipush (pc' := 10) dX10_calculate_8 rfl (r32_c rfl) (by decide) ?_
    obtain ⟨v4, k5, h⟩ := bd h
    by_cases c6 : v4 = 0
    · rw [if_pos c6] at h
      have k5 := l_C_needRange (d + 1) n e σ x2 0 100 _ k5
      rw [c6] at k5
      refine go_call (kc := 17) (Mc := mt17) (v := none) (w' := (true, n, e, σ)) (pc' := 13) (st' := []) [pvI x2, pvI 0, pvI 100] [] (Or.inr (Or.inl rfl)) dX10_calculate_10 rfl rm_10_70 mtE17 rfl rfl rfl (Nat.le_of_ble_eq_true rfl) (Or.inl (by decide)) k5 rfl ?_
      refine go_aload_n (pc' := 14) dX10_calculate_13 rfl rfl (Nat.le_of_ble_eq_true rfl) ?_
      refine go_getF (pc' := 17) dX10_calculate_14 rfl rf_10_58 rfl ?_
      obtain ⟨g7, h⟩ := gd h
      refine go_getIF (pc' := 20) dX10_calculate_17 rfl rf_10_174 rfl g7 ?_
      refine go_iconst (pc' := 21) dX10_calculate_20 rfl (r32_c rfl) ?_
      obtain ⟨j8, k9, h⟩ := bd h
      have k9J : Go none (Ev (d + 2)) mt53 52 [some (pvR 10 0 0), some (pvI x1), some (pvI x2), some (pvR 0 0 v1.2), none] [pvI j8] (true, n, e, σ) (r.1, if r.1 = 0 then some (pvI r.2.1) else none, true, r.2.2.1, e + if r.1 = 0 then 0 else 1, r.2.2.2) := by
        obtain ⟨v15, k16, h⟩ := bd h
        by_cases c17 : v15 = 0
        · rw [if_pos c17] at h
          have k16 := l_C_need (d + 1) n e σ j8 _ k16
          rw [c17] at k16
          refine go_call (kc := 19) (Mc := mt19) (v := none) (w' := (true, n, e, σ)) (pc' := 55) (st' := []) [pvI j8] [] (Or.inr (Or.inl rfl)) dX10_calculate_52 rfl rm_10_84 mtE19 rfl rfl rfl (Nat.le_of_ble_eq_true rfl) (Or.inl (by decide)) k16 rfl ?_
          refine go_aload_n (pc' := 56) dX10_calculate_55 rfl rfl (Nat.le_of_ble_eq_true rfl) ?_
          refine go_aload_n (pc' := 57) dX10_calculate_56 rfl rfl (Nat.le_of_ble_eq_true rfl) ?_
          refine go_getF (pc' := 60) dX10_calculate_57 rfl rf_10_58 rfl ?_
          refine go_iload_n (pc' := 61) dX10_calculate_60 rfl rfl ?_
          obtain ⟨v18, k19, h⟩ := bd h
          have k19 := l_D_addCalculated (d + 0) n e σ v1.2 (σ 0 6) x2 _ k19
          refine go_call (kc := 55) (Mc := mt55) (v := some (pvI v18.1)) (w' := (true, n, e, v18.2)) (pc' := 64) (st' := [pvI v18.1]) [pvR 0 0 v1.2, pvF (σ 0 6), pvI x2] [] (Or.inl rfl) dX10_calculate_61 rfl rm_10_180 mtE55 rfl rfl rfl (Nat.le_of_ble_eq_true rfl) (Or.inr ⟨_, _, v1.2, rfl, Or.inl rfl⟩) k19 rfl ?_
          refine go_istore (L' := [some (pvR 10 0 0), some (pvI x1), some (pvI x2), some (pvR 0 0 v1.2), some (pvI v18.1)]) (pc' := 66) dX10_calculate_64 rfl (Nat.le_of_ble_eq_true rfl) rfl ?_
          refine go_aload_n (pc' := 67) dX10_calculate_66 rfl rfl (Nat.le_of_ble_eq_true rfl) ?_
          obtain ⟨g20, h⟩ := gd h
          refine go_formula (pc' := 74) dX10_calculate_67 rfl rfl rfl (Nat.le_of_ble_eq_true rfl) dX10_calculate_70 dX10_calculate_71 g20 ?_
          obtain ⟨g21, h⟩ := gd h
          refine go_putF (pc' := 77) dX10_calculate_74 rfl rf_10_58 rfl g21 ?_
          refine go_aload_n (pc' := 78) dX10_calculate_77 rfl rfl (Nat.le_of_ble_eq_true rfl) ?_
          refine go_getR (k' := 3) (L0 := 0) (P' := 108) (pc' := 81) dX10_calculate_78 rfl rf_10_35 rfl rfl (by omega) ?_
          obtain ⟨v22, k23, h⟩ := bd h
          have k23 := l_K_dropAll (d + 1) (n + 4) e (hset (zFormula v18.2 (n % 1048576)) 0 6 ((n % 1048576 : Nat) : Int)) _ k23
          refine go_call (kc := 35) (Mc := mt35) (v := none) (w' := (true, (n + 4), e, v22)) (pc' := 84) (st' := []) [pvR 3 0 108] [] (Or.inl rfl) dX10_calculate_81 rfl rm_10_105 mtE35 rfl rfl rfl (Nat.le_of_ble_eq_true rfl) (Or.inr ⟨_, _, 108, rfl, Or.inl rfl⟩) k23 rfl ?_
          refine go_iload (pc' := 86) dX10_calculate_84 rfl rfl ?_
          cases h
          exact go_iret dX10_calculate_86 rfl rfl
        · rw [if_neg c17] at h
          obtain ⟨g24, h⟩ := gd h
          cases h
          have k16 := l_C_need (d + 1) n e σ j8 _ k16
          simp only [if_neg c17] at k16 ⊢
          exact go_callX (kc := 19) (Mc := mt19) [pvI j8] [] (Or.inr rfl) dX10_calculate_52 rm_10_84 mtE19 rfl rfl rfl (Nat.le_of_ble_eq_true rfl) (Or.inl (by decide)) rfl c17 g24 k16 rfl
      clear h
      have h := k9
      refine go_icmp_ne (t := 51) (pc' := 24) dX10_calculate_21 rfl rfl (fun c25 => ?_) (fun c25 => ?_)
      · rw [if_pos (show (σ (Int.toNat (σ 0 6)) 1) ≠ 1 from c25)] at h
        refine go_iconst (pc' := 52) dX10_calculate_51 rfl (r32_c rfl) ?_
        cases h
        exact k9J
      · rw [if_neg (show ¬ ((σ (Int.toNat (σ 0 6)) 1) ≠ 1) from c25)] at h
        refine go_aload_n (pc' := 25) dX10_calculate_24 rfl rfl (Nat.le_of_ble_eq_true rfl) ?_
        refine go_getF (pc' := 28) dX10_calculate_25 rfl rf_10_58 rfl ?_
        refine go_aload_n (pc' := 29) dX10_calculate_28 rfl rfl (Nat.le_of_ble_eq_true rfl) ?_
        refine go_getI (pc' := 32) dX10_calculate_29 rfl rf_10_80 rfl ?_
        obtain ⟨g10, h⟩ := gd h
        obtain ⟨v11, k12, h⟩ := bd h
        have k12 := l_F_looksBeyond (d + 1) n e σ (σ 0 6) (σ v1.2 0) _ k12
        refine go_call (kc := 54) (Mc := mt54) (v := some (pvI v11)) (w' := (true, n, e, σ)) (pc' := 35) (st' := [pvI v11]) [pvF (σ 0 6), pvI (σ v1.2 0)] [] (Or.inl rfl) dX10_calculate_32 rfl rm_10_177 mtE54 rfl rfl rfl (Nat.le_of_ble_eq_true rfl) (Or.inr ⟨_, _, Int.toNat (σ 0 6), rfl, Or.inr ⟨rfl, by rw [Int.toNat_of_nonneg g10]⟩⟩) k12 rfl ?_
        refine go_if_ne (t := 51) (pc' := 38) dX10_calculate_35 rfl rfl (fun c14 => ?_) (fun c14 => ?_)
        · rw [if_pos (show v11 ≠ 0 from c14)] at h
          refine go_iconst (pc' := 52) dX10_calculate_51 rfl (r32_c rfl) ?_
          cases h
          exact k9J
        · rw [if_neg (show ¬ (v11 ≠ 0) from c14)] at h
          refine go_aload_n (pc' := 39) dX10_calculate_38 rfl rfl (Nat.le_of_ble_eq_true rfl) ?_
          refine go_getI (pc' := 42) dX10_calculate_39 rfl rf_10_80 rfl ?_
          refine go_bipush (pc' := 44) dX10_calculate_42 rfl (r32_c rfl) (by decide) ?_
          refine go_icmp_ge (t := 51) (pc' := 47) dX10_calculate_44 rfl rfl (fun c13 => ?_) (fun c13 => ?_)
          · rw [if_pos (show 12 ≤ (σ v1.2 0) from c13)] at h
            refine go_iconst (pc' := 52) dX10_calculate_51 rfl (r32_c rfl) ?_
            cases h
            exact k9J
          · rw [if_neg (show ¬ (12 ≤ (σ v1.2 0)) from c13)] at h
            refine go_iconst (pc' := 48) dX10_calculate_47 rfl (r32_c rfl) ?_
            refine go_goto (t := 52) dX10_calculate_48 rfl ?_
            cases h
            exact k9J
    · rw [if_neg c6] at h
      obtain ⟨g26, h⟩ := gd h
      cases h
      have k5 := l_C_needRange (d + 1) n e σ x2 0 100 _ k5
      simp only [if_neg c6] at k5 ⊢
      exact go_callX (kc := 17) (Mc := mt17) [pvI x2, pvI 0, pvI 100] [] (Or.inr rfl) dX10_calculate_10 rm_10_70 mtE17 rfl rfl rfl (Nat.le_of_ble_eq_true rfl) (Or.inl (by decide)) rfl c6 g26 k5 rfl
  · rw [if_neg c3] at h
    obtain ⟨g27, h⟩ := gd h
    cases h
    have k2 := l_C_existing (d + 0) n e σ x1 _ k2
    simp only [if_neg c3] at k2 ⊢
    exact go_callX (kc := 13) (Mc := mt13) [pvR 10 0 0, pvI x1] [] (Or.inl rfl) dX10_calculate_2 rm_10_62 mtE13 rfl rfl rfl (Nat.le_of_ble_eq_true rfl) (Or.inr ⟨_, _, 0, rfl, Or.inl rfl⟩) rfl c3 g27 k2 rfl

set_option maxRecDepth 10000 in
theorem l_L_calculates (d : Nat) (n e : Nat) (σ : Hp) (x2 : Int) (x3 : Int) (r : Int × Nat × Nat × Hp) (h : f_L_calculates σ n e x2 x3 = some r) : Ev (d + 4) 52 [pvR 10 0 0, pvI x2, pvI x3] (true, n, e, σ) (0, some (pvI r.1), true, r.2.1, r.2.2.1, r.2.2.2) := by
  unfold f_L_calculates at h
  refine Ev.of mtE52 rfl rfl rfl rfl ?_
  show Go none (Ev (d + 3)) mt52 0 [some (pvR 10 0 0), some (pvI x2), some (pvI x3), none] [] (true, n, e, σ) (0, some (pvI r.1), true, r.2.1, r.2.2.1, r.2.2.2)
  refine go_aload_n (pc' := 1) dL_calculates_0 rfl rfl (Nat.le_of_ble_eq_true rfl) ?_
  refine go_iload_n (pc' := 2) dL_calculates_1 rfl rfl ?_
  refine go_iload_n (pc' := 3) dL_calculates_2 rfl rfl ?_
  obtain ⟨v1, k2, h⟩ := bd h
  by_cases c3 : v1.1 = 0
  · rw [if_pos c3] at h
    have k2 := l_C_calculate (d + 0) n e σ x2 x3 _ k2
    rw [c3] at k2
    refine go_call (kc := 53) (Mc := mt53) (v := some (pvI v1.2.1)) (w' := (true, v1.2.2.1, e, v1.2.2.2)) (pc' := 6) (st' := [pvI v1.2.1]) [pvR 10 0 0, pvI x2, pvI x3] [] (Or.inl rfl) dL_calculates_3 rfl rm_12_32 mtE53 rfl rfl rfl (Nat.le_of_ble_eq_true rfl) (Or.inr ⟨_, _, 0, rfl, Or.inl rfl⟩) k2 rfl ?_
    cases h
    exact go_iret dL_calculates_6 rfl rfl
  · rw [if_neg c3] at h
    by_cases c4 : v1.1 = 1
    · rw [if_pos c4] at h
      have k2 := l_C_calculate (d + 0) n e σ x2 x3 _ k2
      rw [c4] at k2
      refine go_callH (x := 1) (kc := 53) (Mc := mt53) (h := 7) (i := 3) (ln := 1) (w' := (true, v1.2.2.1, (e + 1), v1.2.2.2)) (pc' := 8) (L' := [some (pvR 10 0 0), some (pvI x2), some (pvI x3), none]) [pvR 10 0 0, pvI x2, pvI x3] [] (Or.inl rfl) dL_calculates_3 rm_12_32 mtE53 rfl rfl rfl (Nat.le_of_ble_eq_true rfl) (Or.inr ⟨_, _, 0, rfl, Or.inl rfl⟩) (by decide +kernel) (by decide) (by decide) (Or.inr ⟨_, dL_calculates_7, rfl, rfl⟩) (Nat.le_of_ble_eq_true rfl) rfl rfl k2 ?_
      refine go_bipush (pc' := 10) dL_calculates_8 rfl (r32_c rfl) (by decide) ?_
      cases h
      exact go_iret dL_calculates_10 rfl rfl
    · rw [if_neg c4] at h
      by_cases c5 : v1.1 = 2
      · rw [if_pos c5] at h
        have k2 := l_C_calculate (d + 0) n e σ x2 x3 _ k2
        rw [c5] at k2
        refine go_callH (x := 2) (kc := 53) (Mc := mt53) (h := 11) (i := 3) (ln := 1) (w' := (true, v1.2.2.1, (e + 1), v1.2.2.2)) (pc' := 12) (L' := [some (pvR 10 0 0), some (pvI x2), some (pvI x3), none]) [pvR 10 0 0, pvI x2, pvI x3] [] (Or.inl rfl) dL_calculates_3 rm_12_32 mtE53 rfl rfl rfl (Nat.le_of_ble_eq_true rfl) (Or.inr ⟨_, _, 0, rfl, Or.inl rfl⟩) (by decide +kernel) (by decide) (by decide) (Or.inr ⟨_, dL_calculates_11, rfl, rfl⟩) (Nat.le_of_ble_eq_true rfl) rfl rfl k2 ?_
        refine go_bipush (pc' := 14) dL_calculates_12 rfl (r32_c rfl) (by decide) ?_
        cases h
        exact go_iret dL_calculates_14 rfl rfl
      · rw [if_neg c5] at h
        by_cases c6 : v1.1 = 3
        · rw [if_pos c6] at h
          have k2 := l_C_calculate (d + 0) n e σ x2 x3 _ k2
          rw [c6] at k2
          refine go_callH (x := 3) (kc := 53) (Mc := mt53) (h := 15) (i := 3) (ln := 1) (w' := (true, v1.2.2.1, (e + 1), v1.2.2.2)) (pc' := 16) (L' := [some (pvR 10 0 0), some (pvI x2), some (pvI x3), none]) [pvR 10 0 0, pvI x2, pvI x3] [] (Or.inl rfl) dL_calculates_3 rm_12_32 mtE53 rfl rfl rfl (Nat.le_of_ble_eq_true rfl) (Or.inr ⟨_, _, 0, rfl, Or.inl rfl⟩) (by decide +kernel) (by decide) (by decide) (Or.inr ⟨_, dL_calculates_15, rfl, rfl⟩) (Nat.le_of_ble_eq_true rfl) rfl rfl k2 ?_
          refine go_bipush (pc' := 18) dL_calculates_16 rfl (r32_c rfl) (by decide) ?_
          cases h
          exact go_iret dL_calculates_18 rfl rfl
        · rw [if_neg c6] at h
          cases h

set_option maxRecDepth 10000 in
theorem l_L_measures (d : Nat) (n e : Nat) (σ : Hp) (x2 : Int) (x3 : Int) (x4 : Int) (r : Int × Nat × Hp) (h : f_L_measures σ e x2 x3 x4 = some r) : Ev (d + 4) 56 [pvR 10 0 0, pvI x2, pvI x3, pvI x4] (true, n, e, σ) (0, some (pvI r.1), true, n, r.2.1, r.2.2) := by
  unfold f_L_measures at h
  refine Ev.of mtE56 rfl rfl rfl rfl ?_
  show Go none (Ev (d + 3)) mt56 0 [some (pvR 10 0 0), some (pvI x2), some (pvI x3), some (pvI x4), none] [] (true, n, e, σ) (0, some (pvI r.1), true, n, r.2.1, r.2.2)
  refine go_aload_n (pc' := 1) dL_measures_0 rfl rfl (Nat.le_of_ble_eq_true rfl) ?_
  refine go_iload_n (pc' := 2) dL_measures_1 rfl rfl ?_
  refine go_iload_n (pc' := 3) dL_measures_2 rfl rfl ?_
  refine go_iload_n (pc' := 4) dL_measures_3 rfl rfl ?_
  obtain ⟨v1, k2, h⟩ := bd h
  by_cases c3 : v1.1 = 0
  · rw [if_pos c3] at h
    have k2 := l_C_measure (d + 0) n e σ x2 x3 x4 _ k2
    rw [c3] at k2
    refine go_call (kc := 36) (Mc := mt36) (v := some (pvI v1.2.1)) (w' := (true, n, e, v1.2.2)) (pc' := 7) (st' := [pvI v1.2.1]) [pvR 10 0 0, pvI x2, pvI x3, pvI x4] [] (Or.inl rfl) dL_measures_4 rfl rm_12_35 mtE36 rfl rfl rfl (Nat.le_of_ble_eq_true rfl) (Or.inr ⟨_, _, 0, rfl, Or.inl rfl⟩) k2 rfl ?_
    cases h
    exact go_iret dL_measures_7 rfl rfl
  · rw [if_neg c3] at h
    by_cases c4 : v1.1 = 1
    · rw [if_pos c4] at h
      have k2 := l_C_measure (d + 0) n e σ x2 x3 x4 _ k2
      rw [c4] at k2
      refine go_callH (x := 1) (kc := 36) (Mc := mt36) (h := 8) (i := 4) (ln := 2) (w' := (true, n, (e + 1), v1.2.2)) (pc' := 10) (L' := [some (pvR 10 0 0), some (pvI x2), some (pvI x3), some (pvI x4), none]) [pvR 10 0 0, pvI x2, pvI x3, pvI x4] [] (Or.inl rfl) dL_measures_4 rm_12_35 mtE36 rfl rfl rfl (Nat.le_of_ble_eq_true rfl) (Or.inr ⟨_, _, 0, rfl, Or.inl rfl⟩) (by decide +kernel) (by decide) (by decide) (Or.inl ⟨dL_measures_8, rfl⟩) (Nat.le_of_ble_eq_true rfl) rfl rfl k2 ?_
      refine go_bipush (pc' := 12) dL_measures_10 rfl (r32_c rfl) (by decide) ?_
      cases h
      exact go_iret dL_measures_12 rfl rfl
    · rw [if_neg c4] at h
      by_cases c5 : v1.1 = 2
      · rw [if_pos c5] at h
        have k2 := l_C_measure (d + 0) n e σ x2 x3 x4 _ k2
        rw [c5] at k2
        refine go_callH (x := 2) (kc := 36) (Mc := mt36) (h := 13) (i := 4) (ln := 2) (w' := (true, n, (e + 1), v1.2.2)) (pc' := 15) (L' := [some (pvR 10 0 0), some (pvI x2), some (pvI x3), some (pvI x4), none]) [pvR 10 0 0, pvI x2, pvI x3, pvI x4] [] (Or.inl rfl) dL_measures_4 rm_12_35 mtE36 rfl rfl rfl (Nat.le_of_ble_eq_true rfl) (Or.inr ⟨_, _, 0, rfl, Or.inl rfl⟩) (by decide +kernel) (by decide) (by decide) (Or.inl ⟨dL_measures_13, rfl⟩) (Nat.le_of_ble_eq_true rfl) rfl rfl k2 ?_
        refine go_bipush (pc' := 17) dL_measures_15 rfl (r32_c rfl) (by decide) ?_
        cases h
        exact go_iret dL_measures_17 rfl rfl
      · rw [if_neg c5] at h
        by_cases c6 : v1.1 = 3
        · rw [if_pos c6] at h
          have k2 := l_C_measure (d + 0) n e σ x2 x3 x4 _ k2
          rw [c6] at k2
          refine go_callH (x := 3) (kc := 36) (Mc := mt36) (h := 18) (i := 4) (ln := 2) (w' := (true, n, (e + 1), v1.2.2)) (pc' := 20) (L' := [some (pvR 10 0 0), some (pvI x2), some (pvI x3), some (pvI x4), none]) [pvR 10 0 0, pvI x2, pvI x3, pvI x4] [] (Or.inl rfl) dL_measures_4 rm_12_35 mtE36 rfl rfl rfl (Nat.le_of_ble_eq_true rfl) (Or.inr ⟨_, _, 0, rfl, Or.inl rfl⟩) (by decide +kernel) (by decide) (by decide) (Or.inl ⟨dL_measures_18, rfl⟩) (Nat.le_of_ble_eq_true rfl) rfl rfl k2 ?_
          refine go_bipush (pc' := 22) dL_measures_20 rfl (r32_c rfl) (by decide) ?_
          cases h
          exact go_iret dL_measures_22 rfl rfl
        · rw [if_neg c6] at h
          cases h

set_option maxRecDepth 10000 in
theorem l_C_existingCell (d : Nat) (n e : Nat) (σ : Hp) (x1 : Int) (x2 : Int) (x3 : Int) (x4 : Int) (r : Nat × Int) (h : f_C_existingCell σ x1 x2 x3 x4 = some r) : Ev (d + 3) 59 [pvR 10 0 0, pvI x1, pvI x2, pvI x3, pvI x4] (true, n, e, σ) (r.1, if r.1 = 0 then some (pvI r.2) else none, true, n, e + if r.1 = 0 then 0 else 1, σ) := by
  unfold f_C_existingCell at h
  refine Ev.of mtE59 rfl rfl rfl rfl ?_
  show Go none (Ev (d + 2)) mt59 0 [some (pvR 10 0 0), some (pvI x1), some (pvI x2), some (pvI x3), some (pvI x4)] [] (true, n, e, σ) (r.1, if r.1 = 0 then some (pvI r.2) else none, true, n, e + if r.1 = 0 then 0 else 1, σ)
  refine go_aload_n (pc' := 1) dX10_existingCell_0 rfl rfl (Nat.le_of_ble_eq_true rfl) ?_
  refine go_getR (k' := 7) (L0 := 0) (P' := 1) (pc' := 4) dX10_existingCell_1 rfl rf_10_12 rfl rfl (by omega) ?_
  refine go_getR (k' := 0) (L0 := 0) (P' := 2) (pc' := 7) dX10_existingCell_4 rfl rf_10_127 rfl rfl (by omega) ?_
  refine go_iload_n (pc' := 8) dX10_existingCell_7 rfl rfl ?_
  obtain ⟨v1, k2, h⟩ := bd h
  by_cases c3 : v1 = 0
  · rw [if_pos c3] at h
    have k2 := l_C_needMember (d + 0) n e σ 2 x1 _ k2
    rw [c3] at k2
    refine go_call (kc := 15) (Mc := mt15) (v := none) (w' := (true, n, e, σ)) (pc' := 11) (st' := []) [pvR 0 0 2, pvI x1] [] (Or.inr (Or.inl rfl)) dX10_existingCell_8 rfl rm_10_66 mtE15 rfl rfl rfl (Nat.le_of_ble_eq_true rfl) (Or.inl (by decide)) k2 rfl ?_
    refine go_aload_n (pc' := 12) dX10_existingCell_11 rfl rfl (Nat.le_of_ble_eq_true rfl) ?_
    refine go_getR (k' := 7) (L0 := 0) (P' := 1) (pc' := 15) dX10_existingCell_12 rfl rf_10_12 rfl rfl (by omega) ?_
    refine go_getR (k' := 0) (L0 := 0) (P' := 32) (pc' := 18) dX10_existingCell_15 rfl rf_10_340 rfl rfl (by omega) ?_
    refine go_iload_n (pc' := 19) dX10_existingCell_18 rfl rfl ?_
    obtain ⟨v4, k5, h⟩ := bd h
    by_cases c6 : v4 = 0
    · rw [if_pos c6] at h
      have k5 := l_C_needMember (d + 0) n e σ 32 x2 _ k5
      rw [c6] at k5
      refine go_call (kc := 15) (Mc := mt15) (v := none) (w' := (true, n, e, σ)) (pc' := 22) (st' := []) [pvR 0 0 32, pvI x2] [] (Or.inr (Or.inl rfl)) dX10_existingCell_19 rfl rm_10_66 mtE15 rfl rfl rfl (Nat.le_of_ble_eq_true rfl) (Or.inl (by decide)) k5 rfl ?_
      refine go_aload_n (pc' := 23) dX10_existingCell_22 rfl rfl (Nat.le_of_ble_eq_true rfl) ?_
      refine go_getR (k' := 7) (L0 := 0) (P' := 1) (pc' := 26) dX10_existingCell_23 rfl rf_10_12 rfl rfl (by omega) ?_
      refine go_getR (k' := 0) (L0 := 0) (P' := 62) (pc' := 29) dX10_existingCell_26 rfl rf_10_343 rfl rfl (by omega) ?_
      refine go_iload_n (pc' := 30) dX10_existingCell_29 rfl rfl ?_
      obtain ⟨v7, k8, h⟩ := bd h
      by_cases c9 : v7 = 0
      · rw [if_pos c9] at h
        have k8 := l_C_needMember (d + 0) n e σ 62 x3 _ k8
        rw [c9] at k8
        refine go_call (kc := 15) (Mc := mt15) (v := none) (w' := (true, n, e, σ)) (pc' := 33) (st' := []) [pvR 0 0 62, pvI x3] [] (Or.inr (Or.inl rfl)) dX10_existingCell_30 rfl rm_10_66 mtE15 rfl rfl rfl (Nat.le_of_ble_eq_true rfl) (Or.inl (by decide)) k8 rfl ?_
        refine go_aload_n (pc' := 34) dX10_existingCell_33 rfl rfl (Nat.le_of_ble_eq_true rfl) ?_
        refine go_iload (pc' := 36) dX10_existingCell_34 rfl rfl ?_
        obtain ⟨v10, k11, h⟩ := bd h
        by_cases c12 : v10 = 0
        · rw [if_pos c12] at h
          have k11 := l_C_needMeasure (d + 0) n e σ x4 _ k11
          rw [c12] at k11
          refine go_call (kc := 37) (Mc := mt37) (v := none) (w' := (true, n, e, σ)) (pc' := 39) (st' := []) [pvR 10 0 0, pvI x4] [] (Or.inl rfl) dX10_existingCell_36 rfl rm_10_193 mtE37 rfl rfl rfl (Nat.le_of_ble_eq_true rfl) (Or.inr ⟨_, _, 0, rfl, Or.inl rfl⟩) k11 rfl ?_
          refine go_iload_n (pc' := 40) dX10_existingCell_39 rfl rfl ?_
          refine go_sipush (pc' := 43) dX10_existingCell_40 rfl (r32_c rfl) (by decide) ?_
          obtain ⟨g13, h⟩ := gd h
          refine go_imul (pc' := 44) dX10_existingCell_43 rfl g13 ?_
          refine go_iload_n (pc' := 45) dX10_existingCell_44 rfl rfl ?_
          refine go_bipush (pc' := 47) dX10_existingCell_45 rfl (r32_c rfl) (by decide) ?_
          obtain ⟨g14, h⟩ := gd h
          refine go_imul (pc' := 48) dX10_existingCell_47 rfl g14 ?_
          obtain ⟨g15, h⟩ := gd h
          refine go_iadd (pc' := 49) dX10_existingCell_48 rfl g15 ?_
          refine go_iload_n (pc' := 50) dX10_existingCell_49 rfl rfl ?_
          obtain ⟨g16, h⟩ := gd h
          refine go_iadd (pc' := 51) dX10_existingCell_50 rfl g16 ?_
          cases h
          exact go_iret dX10_existingCell_51 rfl rfl
        · rw [if_neg c12] at h
          obtain ⟨g17, h⟩ := gd h
          cases h
          have k11 := l_C_needMeasure (d + 0) n e σ x4 _ k11
          simp only [if_neg c12] at k11 ⊢
          exact go_callX (kc := 37) (Mc := mt37) [pvR 10 0 0, pvI x4] [] (Or.inl rfl) dX10_existingCell_36 rm_10_193 mtE37 rfl rfl rfl (Nat.le_of_ble_eq_true rfl) (Or.inr ⟨_, _, 0, rfl, Or.inl rfl⟩) rfl c12 g17 k11 rfl
      · rw [if_neg c9] at h
        obtain ⟨g18, h⟩ := gd h
        cases h
        have k8 := l_C_needMember (d + 0) n e σ 62 x3 _ k8
        simp only [if_neg c9] at k8 ⊢
        exact go_callX (kc := 15) (Mc := mt15) [pvR 0 0 62, pvI x3] [] (Or.inr rfl) dX10_existingCell_30 rm_10_66 mtE15 rfl rfl rfl (Nat.le_of_ble_eq_true rfl) (Or.inl (by decide)) rfl c9 g18 k8 rfl
    · rw [if_neg c6] at h
      obtain ⟨g19, h⟩ := gd h
      cases h
      have k5 := l_C_needMember (d + 0) n e σ 32 x2 _ k5
      simp only [if_neg c6] at k5 ⊢
      exact go_callX (kc := 15) (Mc := mt15) [pvR 0 0 32, pvI x2] [] (Or.inr rfl) dX10_existingCell_19 rm_10_66 mtE15 rfl rfl rfl (Nat.le_of_ble_eq_true rfl) (Or.inl (by decide)) rfl c6 g19 k5 rfl
  · rw [if_neg c3] at h
    obtain ⟨g20, h⟩ := gd h
    cases h
    have k2 := l_C_needMember (d + 0) n e σ 2 x1 _ k2
    simp only [if_neg c3] at k2 ⊢
    exact go_callX (kc := 15) (Mc := mt15) [pvR 0 0 2, pvI x1] [] (Or.inr rfl) dX10_existingCell_8 rm_10_66 mtE15 rfl rfl rfl (Nat.le_of_ble_eq_true rfl) (Or.inl (by decide)) rfl c3 g20 k2 rfl

set_option maxRecDepth 10000 in
theorem l_C_memberOf (d : Nat) (n e : Nat) (σ : Hp) (x1 : Int) (x2 : Int) (r : Int) (h : f_C_memberOf σ x1 x2 = some r) : Ev (d + 1) 61 [pvI x1, pvI x2] (true, n, e, σ) (0, some (pvI r), true, n, e, σ) := by
  unfold f_C_memberOf at h
  refine Ev.of mtE61 rfl rfl rfl rfl ?_
  show Go none (Ev (d + 0)) mt61 0 [some (pvI x1), some (pvI x2)] [] (true, n, e, σ) (0, some (pvI r), true, n, e, σ)
  refine go_iload_n (pc' := 1) dX10_memberOf_0 rfl rfl ?_
  refine go_if_ne (t := 10) (pc' := 4) dX10_memberOf_1 rfl rfl (fun c8 => ?_) (fun c8 => ?_)
  · rw [if_pos (show x2 ≠ 0 from c8)] at h
    refine go_iload_n (pc' := 11) dX10_memberOf_10 rfl rfl ?_
    refine go_iconst (pc' := 12) dX10_memberOf_11 rfl (r32_c rfl) ?_
    obtain ⟨j1, k2, h⟩ := bd h
    have k2J : Go none (Ev (d + 0)) mt61 29 [some (pvI x1), some (pvI x2)] [pvI j1] (true, n, e, σ) (0, some (pvI r), true, n, e, σ) := by
      cases h
      exact go_iret dX10_memberOf_29 rfl rfl
    clear h
    have h := k2
    refine go_icmp_ne (t := 25) (pc' := 15) dX10_memberOf_12 rfl rfl (fun c6 => ?_) (fun c6 => ?_)
    · rw [if_pos (show x2 ≠ 1 from c6)] at h
      refine go_iload_n (pc' := 26) dX10_memberOf_25 rfl rfl ?_
      refine go_bipush (pc' := 28) dX10_memberOf_26 rfl (r32_c rfl) (by decide) ?_
      obtain ⟨g3, h⟩ := gd h
      refine go_irem (pc' := 29) dX10_memberOf_28 rfl g3 ?_
      cases h
      exact k2J
    · rw [if_neg (show ¬ (x2 ≠ 1) from c6)] at h
      refine go_iload_n (pc' := 16) dX10_memberOf_15 rfl rfl ?_
      refine go_bipush (pc' := 18) dX10_memberOf_16 rfl (r32_c rfl) (by decide) ?_
      obtain ⟨g4, h⟩ := gd h
      refine go_idiv (pc' := 19) dX10_memberOf_18 rfl g4 ?_
      refine go_bipush (pc' := 21) dX10_memberOf_19 rfl (r32_c rfl) (by decide) ?_
      obtain ⟨g5, h⟩ := gd h
      refine go_irem (pc' := 22) dX10_memberOf_21 rfl g5 ?_
      refine go_goto (t := 29) dX10_memberOf_22 rfl ?_
      cases h
      exact k2J
  · rw [if_neg (show ¬ (x2 ≠ 0) from c8)] at h
    refine go_iload_n (pc' := 5) dX10_memberOf_4 rfl rfl ?_
    refine go_sipush (pc' := 8) dX10_memberOf_5 rfl (r32_c rfl) (by decide) ?_
    obtain ⟨g7, h⟩ := gd h
    refine go_idiv (pc' := 9) dX10_memberOf_8 rfl g7 ?_
    cases h
    exact go_iret dX10_memberOf_9 rfl rfl

set_option maxRecDepth 10000 in
theorem l_S_isPlain (d : Nat) (n e : Nat) (σ : Hp) (x1 : Int) (r : Int) (h : f_S_isPlain σ x1 = some r) : Ev (d + 3) 60 [pvR 7 0 1, pvI x1] (true, n, e, σ) (0, some (pvI r), true, n, e, σ) := by
  unfold f_S_isPlain at h
  refine Ev.of mtE60 rfl rfl rfl rfl ?_
  show Go none (Ev (d + 2)) mt60 0 [some (pvR 7 0 1), some (pvI x1)] [] (true, n, e, σ) (0, some (pvI r), true, n, e, σ)
  refine go_aload_n (pc' := 1) dX7_isPlain_0 rfl rfl (Nat.le_of_ble_eq_true rfl) ?_
  refine go_getR (k' := 0) (L0 := 0) (P' := 2) (pc' := 4) dX7_isPlain_1 rfl rf_7_12 rfl rfl (by omega) ?_
  refine go_iload_n (pc' := 5) dX7_isPlain_4 rfl rfl ?_
  refine go_iconst (pc' := 6) dX7_isPlain_5 rfl (r32_c rfl) ?_
  obtain ⟨v1, k2, h⟩ := bd h
  have k2 := l_C_memberOf (d + 1) n e σ x1 0 _ k2
  refine go_call (kc := 61) (Mc := mt61) (v := some (pvI v1)) (w' := (true, n, e, σ)) (pc' := 9) (st' := [pvI v1, pvR 0 0 2]) [pvI x1, pvI 0] [pvR 0 0 2] (Or.inr (Or.inr (Or.inr (Or.inl rfl)))) dX7_isPlain_6 rfl rm_7_45 mtE61 rfl rfl rfl (Nat.le_of_ble_eq_true rfl) (Or.inl (by decide)) k2 rfl ?_
  obtain ⟨v3, k4, h⟩ := bd h
  have k4 := l_D_isPlain (d + 0) n e σ 2 v1 _ k4
  refine go_call (kc := 18) (Mc := mt18) (v := some (pvI v3)) (w' := (true, n, e, σ)) (pc' := 12) (st' := [pvI v3]) [pvR 0 0 2, pvI v1] [] (Or.inl rfl) dX7_isPlain_9 rfl rm_7_49 mtE18 rfl rfl rfl (Nat.le_of_ble_eq_true rfl) (Or.inr ⟨_, _, 2, rfl, Or.inl rfl⟩) k4 rfl ?_
  obtain ⟨j5, k6, h⟩ := bd h
  have k6J : Go none (Ev (d + 2)) mt60 50 [some (pvR 7 0 1), some (pvI x1)] [pvI j5] (true, n, e, σ) (0, some (pvI r), true, n, e, σ) := by
    obtain ⟨g17, h⟩ := gd h
    cases h
    exact go_zret dX7_isPlain_50 rfl g17 rfl
  clear h
  have h := k6
  refine go_if_eq (t := 49) (pc' := 15) dX7_isPlain_12 rfl rfl (fun c18 => ?_) (fun c18 => ?_)
  · rw [if_pos (show v3 = 0 from c18)] at h
    refine go_iconst (pc' := 50) dX7_isPlain_49 rfl (r32_c rfl) ?_
    cases h
    exact k6J
  · rw [if_neg (show ¬ (v3 = 0) from c18)] at h
    refine go_aload_n (pc' := 16) dX7_isPlain_15 rfl rfl (Nat.le_of_ble_eq_true rfl) ?_
    refine go_getR (k' := 0) (L0 := 0) (P' := 32) (pc' := 19) dX7_isPlain_16 rfl rf_7_18 rfl rfl (by omega) ?_
    refine go_iload_n (pc' := 20) dX7_isPlain_19 rfl rfl ?_
    refine go_iconst (pc' := 21) dX7_isPlain_20 rfl (r32_c rfl) ?_
    obtain ⟨v7, k8, h⟩ := bd h
    have k8 := l_C_memberOf (d + 1) n e σ x1 1 _ k8
    refine go_call (kc := 61) (Mc := mt61) (v := some (pvI v7)) (w' := (true, n, e, σ)) (pc' := 24) (st' := [pvI v7, pvR 0 0 32]) [pvI x1, pvI 1] [pvR 0 0 32] (Or.inr (Or.inr (Or.inr (Or.inl rfl)))) dX7_isPlain_21 rfl rm_7_45 mtE61 rfl rfl rfl (Nat.le_of_ble_eq_true rfl) (Or.inl (by decide)) k8 rfl ?_
    obtain ⟨v9, k10, h⟩ := bd h
    have k10 := l_D_isPlain (d + 0) n e σ 32 v7 _ k10
    refine go_call (kc := 18) (Mc := mt18) (v := some (pvI v9)) (w' := (true, n, e, σ)) (pc' := 27) (st' := [pvI v9]) [pvR 0 0 32, pvI v7] [] (Or.inl rfl) dX7_isPlain_24 rfl rm_7_49 mtE18 rfl rfl rfl (Nat.le_of_ble_eq_true rfl) (Or.inr ⟨_, _, 32, rfl, Or.inl rfl⟩) k10 rfl ?_
    refine go_if_eq (t := 49) (pc' := 30) dX7_isPlain_27 rfl rfl (fun c16 => ?_) (fun c16 => ?_)
    · rw [if_pos (show v9 = 0 from c16)] at h
      refine go_iconst (pc' := 50) dX7_isPlain_49 rfl (r32_c rfl) ?_
      cases h
      exact k6J
    · rw [if_neg (show ¬ (v9 = 0) from c16)] at h
      refine go_aload_n (pc' := 31) dX7_isPlain_30 rfl rfl (Nat.le_of_ble_eq_true rfl) ?_
      refine go_getR (k' := 0) (L0 := 0) (P' := 62) (pc' := 34) dX7_isPlain_31 rfl rf_7_21 rfl rfl (by omega) ?_
      refine go_iload_n (pc' := 35) dX7_isPlain_34 rfl rfl ?_
      refine go_iconst (pc' := 36) dX7_isPlain_35 rfl (r32_c rfl) ?_
      obtain ⟨v11, k12, h⟩ := bd h
      have k12 := l_C_memberOf (d + 1) n e σ x1 2 _ k12
      refine go_call (kc := 61) (Mc := mt61) (v := some (pvI v11)) (w' := (true, n, e, σ)) (pc' := 39) (st' := [pvI v11, pvR 0 0 62]) [pvI x1, pvI 2] [pvR 0 0 62] (Or.inr (Or.inr (Or.inr (Or.inl rfl)))) dX7_isPlain_36 rfl rm_7_45 mtE61 rfl rfl rfl (Nat.le_of_ble_eq_true rfl) (Or.inl (by decide)) k12 rfl ?_
      obtain ⟨v13, k14, h⟩ := bd h
      have k14 := l_D_isPlain (d + 0) n e σ 62 v11 _ k14
      refine go_call (kc := 18) (Mc := mt18) (v := some (pvI v13)) (w' := (true, n, e, σ)) (pc' := 42) (st' := [pvI v13]) [pvR 0 0 62, pvI v11] [] (Or.inl rfl) dX7_isPlain_39 rfl rm_7_49 mtE18 rfl rfl rfl (Nat.le_of_ble_eq_true rfl) (Or.inr ⟨_, _, 62, rfl, Or.inl rfl⟩) k14 rfl ?_
      refine go_if_eq (t := 49) (pc' := 45) dX7_isPlain_42 rfl rfl (fun c15 => ?_) (fun c15 => ?_)
      · rw [if_pos (show v13 = 0 from c15)] at h
        refine go_iconst (pc' := 50) dX7_isPlain_49 rfl (r32_c rfl) ?_
        cases h
        exact k6J
      · rw [if_neg (show ¬ (v13 = 0) from c15)] at h
        refine go_iconst (pc' := 46) dX7_isPlain_45 rfl (r32_c rfl) ?_
        refine go_goto (t := 50) dX7_isPlain_46 rfl ?_
        cases h
        exact k6J

