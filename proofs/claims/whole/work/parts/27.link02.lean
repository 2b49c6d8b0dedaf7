/-! ===== links: each function is what its bytecode does ===== -/
set_option maxRecDepth 10000 in
theorem l_D_addCalculated (d : Nat) (n e : Nat) (σ : Hp) (p : Nat) (x1 : Int) (x2 : Int) (r : Int × Hp) (h : f_D_addCalculated σ p x1 x2 = some r) : Ev (d + 2) 62 [pvR 0 0 p, pvF x1, pvI x2] (true, n, e, σ) (0, some (pvI r.1), true, n, e, r.2) := by
  unfold f_D_addCalculated at h
  refine Ev.of mtE62 rfl rfl rfl rfl ?_
  show Go none (Ev (d + 1)) mt62 0 [some (pvR 0 0 p), some (pvF x1), some (pvI x2), none] [] (true, n, e, σ) (0, some (pvI r.1), true, n, e, r.2)
  refine go_aload_n (pc' := 1) dX0_addCalculated_0 rfl rfl (Nat.le_of_ble_eq_true rfl) ?_
  refine go_iconst (pc' := 2) dX0_addCalculated_1 rfl (r32_c rfl) ?_
  obtain ⟨v1, k2, h⟩ := bd h
  have k2 := l_D_addKind (d + 0) n e σ p 2 _ k2
  refine go_call (kc := 28) (Mc := mt28) (v := some (pvI v1.1)) (w' := (true, n, e, v1.2)) (pc' := 5) (st' := [pvI v1.1]) [pvR 0 0 p, pvI 2] [] (Or.inl rfl) dX0_addCalculated_2 rfl rm_0_72 mtE28 rfl rfl rfl (Nat.le_of_ble_eq_true rfl) (Or.inr ⟨_, _, p, rfl, Or.inl rfl⟩) k2 rfl ?_
  refine go_istore_n (L' := [some (pvR 0 0 p), some (pvF x1), some (pvI x2), some (pvI v1.1)]) (pc' := 6) dX0_addCalculated_5 rfl (Nat.le_of_ble_eq_true rfl) rfl ?_
  refine go_aload_n (pc' := 7) dX0_addCalculated_6 rfl rfl (Nat.le_of_ble_eq_true rfl) ?_
  refine go_iload_n (pc' := 8) dX0_addCalculated_7 rfl rfl ?_
  obtain ⟨v3, k4, h⟩ := bd h
  have k4 := l_D_has (d + 0) n e v1.2 p v1.1 _ k4
  refine go_call (kc := 23) (Mc := mt23) (v := some (pvI v3)) (w' := (true, n, e, v1.2)) (pc' := 11) (st' := [pvI v3]) [pvR 0 0 p, pvI v1.1] [] (Or.inl rfl) dX0_addCalculated_8 rfl rm_0_65 mtE23 rfl rfl rfl (Nat.le_of_ble_eq_true rfl) (Or.inr ⟨_, _, p, rfl, Or.inl rfl⟩) k4 rfl ?_
  obtain ⟨j5, k6, h⟩ := bd h
  have k6J : Go none (Ev (d + 1)) mt62 35 [some (pvR 0 0 p), some (pvF x1), some (pvI x2), some (pvI v1.1)] [] (true, n, e, j5) (0, some (pvI r.1), true, n, e, r.2) := by
    refine go_iload_n (pc' := 36) dX0_addCalculated_35 rfl rfl ?_
    cases h
    exact go_iret dX0_addCalculated_36 rfl rfl
  clear h
  have h := k6
  refine go_if_eq (t := 35) (pc' := 14) dX0_addCalculated_11 rfl rfl (fun c12 => ?_) (fun c12 => ?_)
  · rw [if_pos (show v3 = 0 from c12)] at h
    cases h
    exact k6J
  · rw [if_neg (show ¬ (v3 = 0) from c12)] at h
    refine go_aload_n (pc' := 15) dX0_addCalculated_14 rfl rfl (Nat.le_of_ble_eq_true rfl) ?_
    refine go_getR (k' := 15) (L0 := 12) (P' := (p + 11)) (pc' := 18) dX0_addCalculated_15 rfl rf_0_44 rfl rfl (by omega) ?_
    refine go_iload_n (pc' := 19) dX0_addCalculated_18 rfl rfl ?_
    refine go_aload_n (pc' := 20) dX0_addCalculated_19 rfl rfl (Nat.le_of_ble_eq_true rfl) ?_
    obtain ⟨g7, h⟩ := gd h
    obtain ⟨g8, h⟩ := gd h
    refine go_fast (pc' := 21) dX0_addCalculated_20 rfl g7 g8 ?_
    refine go_aload_n (pc' := 22) dX0_addCalculated_21 rfl rfl (Nat.le_of_ble_eq_true rfl) ?_
    refine go_getR (k' := 12) (L0 := 12) (P' := (p + 9)) (pc' := 25) dX0_addCalculated_22 rfl rf_0_35 rfl rfl (by omega) ?_
    refine go_iload_n (pc' := 26) dX0_addCalculated_25 rfl rfl ?_
    refine go_iload_n (pc' := 27) dX0_addCalculated_26 rfl rfl ?_
    obtain ⟨g9, h⟩ := gd h
    refine go_iast (pc' := 28) dX0_addCalculated_27 rfl g9 ?_
    refine go_aload_n (pc' := 29) dX0_addCalculated_28 rfl rfl (Nat.le_of_ble_eq_true rfl) ?_
    refine go_getR (k' := 14) (L0 := 12) (P' := (p + 15)) (pc' := 32) dX0_addCalculated_29 rfl rf_0_57 rfl rfl (by omega) ?_
    refine go_iload_n (pc' := 33) dX0_addCalculated_32 rfl rfl ?_
    refine go_iconst (pc' := 34) dX0_addCalculated_33 rfl (r32_c rfl) ?_
    obtain ⟨g10, h⟩ := gd h
    obtain ⟨g11, h⟩ := gd h
    refine go_zast (pc' := 35) dX0_addCalculated_34 rfl g10 g11 ?_
    cases h
    exact k6J

set_option maxRecDepth 10000 in
theorem l_C_calculate (d : Nat) (n e : Nat) (σ : Hp) (x1 : Int) (x2 : Int) (r : Nat × Int × Nat × Hp) (h : f_C_calculate σ n x1 x2 = some r) : Ev (d + 3) 60 [pvR 10 0 0, pvI x1, pvI x2] (true, n, e, σ) (r.1, if r.1 = 0 then some (pvI r.2.1) else none, true, r.2.2.1, e + if r.1 = 0 then 0 else 1, r.2.2.2) := by
  unfold f_C_calculate at h
  refine Ev.of mtE60 rfl rfl rfl rfl ?_
  show Go none (Ev (d + 2)) mt60 0 [some (pvR 10 0 0), some (pvI x1), some (pvI x2), none, none] [] (true, n, e, σ) (r.1, if r.1 = 0 then some (pvI r.2.1) else none, true, r.2.2.1, e + if r.1 = 0 then 0 else 1, r.2.2.2)
  refine go_aload_n (pc' := 1) dX10_calculate_0 rfl rfl (Nat.le_of_ble_eq_true rfl) ?_
  refine go_iload_n (pc' := 2) dX10_calculate_1 rfl rfl ?_
  obtain ⟨v1, k2, h⟩ := bd h
  by_cases c3 : v1.1 = 0
  · rw [if_pos c3] at h
    have k2 := l_C_existing (d + 0) n e σ x1 _ k2
    rw [c3] at k2
    refine go_call (kc := 20) (Mc := mt20) (v := some (pvR 0 0 v1.2)) (w' := (true, n, e, σ)) (pc' := 5) (st' := [pvR 0 0 v1.2]) [pvR 10 0 0, pvI x1] [] (Or.inl rfl) dX10_calculate_2 rfl rm_10_62 mtE20 rfl rfl rfl (Nat.le_of_ble_eq_true rfl) (Or.inr ⟨_, _, 0, rfl, Or.inl rfl⟩) k2 rfl ?_
    refine go_astore_n (L' := [some (pvR 10 0 0), some (pvI x1), some (pvI x2), some (pvR 0 0 v1.2), none]) (pc' := 6) dX10_calculate_5 rfl (Nat.le_of_ble_eq_true rfl) (Nat.le_of_ble_eq_true rfl) rfl ?_
    refine go_iload_n (pc' := 7) dX10_calculate_6 rfl rfl ?_
    refine go_iconst (pc' := 8) dX10_calculate_7 rfl (r32_c rfl) ?_
    refine go_bipush (pc' := 10) dX10_calculate_8 rfl (r32_c rfl) (by decide) ?_
    obtain ⟨v4, k5, h⟩ := bd h
    by_cases c6 : v4 = 0
    · rw [if_pos c6] at h
      have k5 := l_C_needRange (d + 1) n e σ x2 0 100 _ k5
      rw [c6] at k5
      refine go_call (kc := 24) (Mc := mt24) (v := none) (w' := (true, n, e, σ)) (pc' := 13) (st' := []) [pvI x2, pvI 0, pvI 100] [] (Or.inr (Or.inl rfl)) dX10_calculate_10 rfl rm_10_70 mtE24 rfl rfl rfl (Nat.le_of_ble_eq_true rfl) (Or.inl (by decide)) k5 rfl ?_
      refine go_aload_n (pc' := 14) dX10_calculate_13 rfl rfl (Nat.le_of_ble_eq_true rfl) ?_
      refine go_getF (pc' := 17) dX10_calculate_14 rfl rf_10_58 rfl ?_
      obtain ⟨g7, h⟩ := gd h
      refine go_getIF (pc' := 20) dX10_calculate_17 rfl rf_10_174 rfl g7 ?_
      refine go_iconst (pc' := 21) dX10_calculate_20 rfl (r32_c rfl) ?_
      obtain ⟨j8, k9, h⟩ := bd h
      have k9J : Go none (Ev (d + 2)) mt60 52 [some (pvR 10 0 0), some (pvI x1), some (pvI x2), some (pvR 0 0 v1.2), none] [pvI j8] (true, n, e, σ) (r.1, if r.1 = 0 then some (pvI r.2.1) else none, true, r.2.2.1, e + if r.1 = 0 then 0 else 1, r.2.2.2) := by
        obtain ⟨v15, k16, h⟩ := bd h
        by_cases c17 : v15 = 0
        · rw [if_pos c17] at h
          have k16 := l_C_need (d + 1) n e σ j8 _ k16
          rw [c17] at k16
          refine go_call (kc := 26) (Mc := mt26) (v := none) (w' := (true, n, e, σ)) (pc' := 55) (st' := []) [pvI j8] [] (Or.inr (Or.inl rfl)) dX10_calculate_52 rfl rm_10_84 mtE26 rfl rfl rfl (Nat.le_of_ble_eq_true rfl) (Or.inl (by decide)) k16 rfl ?_
          refine go_aload_n (pc' := 56) dX10_calculate_55 rfl rfl (Nat.le_of_ble_eq_true rfl) ?_
          refine go_aload_n (pc' := 57) dX10_calculate_56 rfl rfl (Nat.le_of_ble_eq_true rfl) ?_
          refine go_getF (pc' := 60) dX10_calculate_57 rfl rf_10_58 rfl ?_
          refine go_iload_n (pc' := 61) dX10_calculate_60 rfl rfl ?_
          obtain ⟨v18, k19, h⟩ := bd h
          have k19 := l_D_addCalculated (d + 0) n e σ v1.2 (σ 0 6) x2 _ k19
          refine go_call (kc := 62) (Mc := mt62) (v := some (pvI v18.1)) (w' := (true, n, e, v18.2)) (pc' := 64) (st' := [pvI v18.1]) [pvR 0 0 v1.2, pvF (σ 0 6), pvI x2] [] (Or.inl rfl) dX10_calculate_61 rfl rm_10_180 mtE62 rfl rfl rfl (Nat.le_of_ble_eq_true rfl) (Or.inr ⟨_, _, v1.2, rfl, Or.inl rfl⟩) k19 rfl ?_
          refine go_istore (L' := [some (pvR 10 0 0), some (pvI x1), some (pvI x2), some (pvR 0 0 v1.2), some (pvI v18.1)]) (pc' := 66) dX10_calculate_64 rfl (Nat.le_of_ble_eq_true rfl) rfl ?_
          refine go_aload_n (pc' := 67) dX10_calculate_66 rfl rfl (Nat.le_of_ble_eq_true rfl) ?_
          refine go_formula (pc' := 74) dX10_calculate_67 rfl rfl rfl (Nat.le_of_ble_eq_true rfl) dX10_calculate_70 dX10_calculate_71 ?_
          obtain ⟨g20, h⟩ := gd h
          refine go_putF (pc' := 77) dX10_calculate_74 rfl rf_10_58 rfl g20 ?_
          refine go_aload_n (pc' := 78) dX10_calculate_77 rfl rfl (Nat.le_of_ble_eq_true rfl) ?_
          refine go_getR (k' := 3) (L0 := 0) (P' := 108) (pc' := 81) dX10_calculate_78 rfl rf_10_35 rfl rfl (by omega) ?_
          obtain ⟨v21, k22, h⟩ := bd h
          have k22 := l_K_dropAll (d + 1) (n + 4) e (hset (zFormula v18.2 n) 0 6 (n : Int)) _ k22
          refine go_call (kc := 13) (Mc := mt13) (v := none) (w' := (true, (n + 4), e, v21)) (pc' := 84) (st' := []) [pvR 3 0 108] [] (Or.inl rfl) dX10_calculate_81 rfl rm_10_105 mtE13 rfl rfl rfl (Nat.le_of_ble_eq_true rfl) (Or.inr ⟨_, _, 108, rfl, Or.inl rfl⟩) k22 rfl ?_
          refine go_iload (pc' := 86) dX10_calculate_84 rfl rfl ?_
          cases h
          exact go_iret dX10_calculate_86 rfl rfl
        · rw [if_neg c17] at h
          obtain ⟨g23, h⟩ := gd h
          cases h
          have k16 := l_C_need (d + 1) n e σ j8 _ k16
          simp only [if_neg c17] at k16 ⊢
          exact go_callX (kc := 26) (Mc := mt26) [pvI j8] [] (Or.inr rfl) dX10_calculate_52 rm_10_84 mtE26 rfl rfl rfl (Nat.le_of_ble_eq_true rfl) (Or.inl (by decide)) rfl c17 g23 k16 rfl
      clear h
      have h := k9
      refine go_icmp_ne (t := 51) (pc' := 24) dX10_calculate_21 rfl rfl (fun c24 => ?_) (fun c24 => ?_)
      · rw [if_pos (show (σ (Int.toNat (σ 0 6)) 1) ≠ 1 from c24)] at h
        refine go_iconst (pc' := 52) dX10_calculate_51 rfl (r32_c rfl) ?_
        cases h
        exact k9J
      · rw [if_neg (show ¬ ((σ (Int.toNat (σ 0 6)) 1) ≠ 1) from c24)] at h
        refine go_aload_n (pc' := 25) dX10_calculate_24 rfl rfl (Nat.le_of_ble_eq_true rfl) ?_
        refine go_getF (pc' := 28) dX10_calculate_25 rfl rf_10_58 rfl ?_
        refine go_aload_n (pc' := 29) dX10_calculate_28 rfl rfl (Nat.le_of_ble_eq_true rfl) ?_
        refine go_getI (pc' := 32) dX10_calculate_29 rfl rf_10_80 rfl ?_
        obtain ⟨g10, h⟩ := gd h
        obtain ⟨v11, k12, h⟩ := bd h
        have k12 := l_F_looksBeyond (d + 1) n e σ (σ 0 6) (σ v1.2 0) _ k12
        refine go_call (kc := 61) (Mc := mt61) (v := some (pvI v11)) (w' := (true, n, e, σ)) (pc' := 35) (st' := [pvI v11]) [pvF (σ 0 6), pvI (σ v1.2 0)] [] (Or.inl rfl) dX10_calculate_32 rfl rm_10_177 mtE61 rfl rfl rfl (Nat.le_of_ble_eq_true rfl) (Or.inr ⟨_, _, Int.toNat (σ 0 6), rfl, Or.inr ⟨rfl, by rw [Int.toNat_of_nonneg g10]⟩⟩) k12 rfl ?_
        refine go_if_ne (t := 51) (pc' := 38) dX10_calculate_35 rfl rfl (fun c14 => ?_) (fun c14 => ?_)
        · rw [if_pos (show v11 ≠ 0 from c14)] at h
          refine go_iconst (pc' := 52) dX10_calculate_51 rfl (r32_c rfl) ?_
          cases h
          exact k9J
        · rw [if_neg (show ¬ (v11 ≠ 0) from c14)] at h
          refine go_aload_n (pc' := 39) dX10_calculate_38 rfl rfl (Nat.le_of_ble_eq_true rfl) ?_
          refine go_getI (pc' := 42) dX10_calculate_39 rfl rf_10_80 rfl ?_
          refine go_bipush (pc' := 44) dX10_calculate_42 rfl (r32_c rfl) (by decide) ?_
          refine go_icmp_ge (t := 51) (pc' := 47) dX10_calculate_44 rfl rfl (fun c13 => ?_) (fun c13 => ?_)
          · rw [if_pos (show 12 ≤ (σ v1.2 0) from c13)] at h
            refine go_iconst (pc' := 52) dX10_calculate_51 rfl (r32_c rfl) ?_
            cases h
            exact k9J
          · rw [if_neg (show ¬ (12 ≤ (σ v1.2 0)) from c13)] at h
            refine go_iconst (pc' := 48) dX10_calculate_47 rfl (r32_c rfl) ?_
            refine go_goto (t := 52) dX10_calculate_48 rfl ?_
            cases h
            exact k9J
    · rw [if_neg c6] at h
      obtain ⟨g25, h⟩ := gd h
      cases h
      have k5 := l_C_needRange (d + 1) n e σ x2 0 100 _ k5
      simp only [if_neg c6] at k5 ⊢
      exact go_callX (kc := 24) (Mc := mt24) [pvI x2, pvI 0, pvI 100] [] (Or.inr rfl) dX10_calculate_10 rm_10_70 mtE24 rfl rfl rfl (Nat.le_of_ble_eq_true rfl) (Or.inl (by decide)) rfl c6 g25 k5 rfl
  · rw [if_neg c3] at h
    obtain ⟨g26, h⟩ := gd h
    cases h
    have k2 := l_C_existing (d + 0) n e σ x1 _ k2
    simp only [if_neg c3] at k2 ⊢
    exact go_callX (kc := 20) (Mc := mt20) [pvR 10 0 0, pvI x1] [] (Or.inl rfl) dX10_calculate_2 rm_10_62 mtE20 rfl rfl rfl (Nat.le_of_ble_eq_true rfl) (Or.inr ⟨_, _, 0, rfl, Or.inl rfl⟩) rfl c3 g26 k2 rfl

set_option maxRecDepth 10000 in
theorem l_L_calculate (d : Nat) (n e : Nat) (σ : Hp) (x2 : Int) (x3 : Int) (r : Int × Nat × Nat × Hp) (h : f_L_calculate σ n e x2 x3 = some r) : Ev (d + 4) 59 [pvR 10 0 0, pvI x2, pvI x3, pvR 13 1 170] (true, n, e, σ) (0, some (pvI r.1), true, r.2.1, r.2.2.1, r.2.2.2) := by
  unfold f_L_calculate at h
  refine Ev.of mtE59 rfl rfl rfl rfl ?_
  show Go none (Ev (d + 3)) mt59 0 [some (pvR 10 0 0), some (pvI x2), some (pvI x3), some (pvR 13 1 170), none] [] (true, n, e, σ) (0, some (pvI r.1), true, r.2.1, r.2.2.1, r.2.2.2)
  refine go_aload_n (pc' := 1) dL_calculate_0 rfl rfl (Nat.le_of_ble_eq_true rfl) ?_
  refine go_iconst (pc' := 2) dL_calculate_1 rfl (r32_c rfl) ?_
  refine go_aload_n (pc' := 3) dL_calculate_2 rfl rfl (Nat.le_of_ble_eq_true rfl) ?_
  refine go_iload_n (pc' := 4) dL_calculate_3 rfl rfl ?_
  refine go_iload_n (pc' := 5) dL_calculate_4 rfl rfl ?_
  obtain ⟨v1, k2, h⟩ := bd h
  by_cases c3 : v1.1 = 0
  · rw [if_pos c3] at h
    have k2 := l_C_calculate (d + 0) n e σ x2 x3 _ k2
    rw [c3] at k2
    refine go_call (kc := 60) (Mc := mt60) (v := some (pvI v1.2.1)) (w' := (true, v1.2.2.1, e, v1.2.2.2)) (pc' := 8) (st' := [pvI v1.2.1, pvI 0, pvR 13 1 170]) [pvR 10 0 0, pvI x2, pvI x3] [pvI 0, pvR 13 1 170] (Or.inl rfl) dL_calculate_5 rfl rm_12_33 mtE60 rfl rfl rfl (Nat.le_of_ble_eq_true rfl) (Or.inr ⟨_, _, 0, rfl, Or.inl rfl⟩) k2 rfl ?_
    refine go_i2l (pc' := 9) dL_calculate_8 rfl ?_
    obtain ⟨g4, h⟩ := gd h
    refine go_last (pc' := 10) dL_calculate_9 rfl g4 ?_
    refine go_goto (t := 25) dL_calculate_10 rfl ?_
    refine go_iconst (pc' := 26) dL_calculate_25 rfl (r32_c rfl) ?_
    cases h
    exact go_iret dL_calculate_26 rfl rfl
  · rw [if_neg c3] at h
    by_cases c5 : v1.1 = 1
    · rw [if_pos c5] at h
      have k2 := l_C_calculate (d + 0) n e σ x2 x3 _ k2
      rw [c5] at k2
      refine go_callH (x := 1) (kc := 60) (Mc := mt60) (h := 13) (i := 4) (ln := 2) (w' := (true, v1.2.2.1, (e + 1), v1.2.2.2)) (pc' := 15) (L' := [some (pvR 10 0 0), some (pvI x2), some (pvI x3), some (pvR 13 1 170), none]) [pvR 10 0 0, pvI x2, pvI x3] [pvI 0, pvR 13 1 170] (Or.inl rfl) dL_calculate_5 rm_12_33 mtE60 rfl rfl rfl (Nat.le_of_ble_eq_true rfl) (Or.inr ⟨_, _, 0, rfl, Or.inl rfl⟩) (by decide +kernel) (by decide) (by decide) (Or.inl ⟨dL_calculate_13, rfl⟩) (Nat.le_of_ble_eq_true rfl) rfl rfl k2 ?_
      refine go_iconst (pc' := 16) dL_calculate_15 rfl (r32_c rfl) ?_
      cases h
      exact go_iret dL_calculate_16 rfl rfl
    · rw [if_neg c5] at h
      by_cases c6 : v1.1 = 2
      · rw [if_pos c6] at h
        have k2 := l_C_calculate (d + 0) n e σ x2 x3 _ k2
        rw [c6] at k2
        refine go_callH (x := 2) (kc := 60) (Mc := mt60) (h := 17) (i := 4) (ln := 2) (w' := (true, v1.2.2.1, (e + 1), v1.2.2.2)) (pc' := 19) (L' := [some (pvR 10 0 0), some (pvI x2), some (pvI x3), some (pvR 13 1 170), none]) [pvR 10 0 0, pvI x2, pvI x3] [pvI 0, pvR 13 1 170] (Or.inl rfl) dL_calculate_5 rm_12_33 mtE60 rfl rfl rfl (Nat.le_of_ble_eq_true rfl) (Or.inr ⟨_, _, 0, rfl, Or.inl rfl⟩) (by decide +kernel) (by decide) (by decide) (Or.inl ⟨dL_calculate_17, rfl⟩) (Nat.le_of_ble_eq_true rfl) rfl rfl k2 ?_
        refine go_iconst (pc' := 20) dL_calculate_19 rfl (r32_c rfl) ?_
        cases h
        exact go_iret dL_calculate_20 rfl rfl
      · rw [if_neg c6] at h
        by_cases c7 : v1.1 = 3
        · rw [if_pos c7] at h
          have k2 := l_C_calculate (d + 0) n e σ x2 x3 _ k2
          rw [c7] at k2
          refine go_callH (x := 3) (kc := 60) (Mc := mt60) (h := 21) (i := 4) (ln := 2) (w' := (true, v1.2.2.1, (e + 1), v1.2.2.2)) (pc' := 23) (L' := [some (pvR 10 0 0), some (pvI x2), some (pvI x3), some (pvR 13 1 170), none]) [pvR 10 0 0, pvI x2, pvI x3] [pvI 0, pvR 13 1 170] (Or.inl rfl) dL_calculate_5 rm_12_33 mtE60 rfl rfl rfl (Nat.le_of_ble_eq_true rfl) (Or.inr ⟨_, _, 0, rfl, Or.inl rfl⟩) (by decide +kernel) (by decide) (by decide) (Or.inl ⟨dL_calculate_21, rfl⟩) (Nat.le_of_ble_eq_true rfl) rfl rfl k2 ?_
          refine go_iconst (pc' := 24) dL_calculate_23 rfl (r32_c rfl) ?_
          cases h
          exact go_iret dL_calculate_24 rfl rfl
        · rw [if_neg c7] at h
          cases h

set_option maxRecDepth 10000 in
theorem l_D_setHidden (d : Nat) (n e : Nat) (σ : Hp) (p : Nat) (x1 : Int) (x2 : Int) (r : Int × Hp) (h : f_D_setHidden σ p x1 x2 = some r) : Ev (d + 4) 65 [pvR 0 0 p, pvI x1, pvI x2] (true, n, e, σ) (0, some (pvI r.1), true, n, e, r.2) := by
  unfold f_D_setHidden at h
  refine Ev.of mtE65 rfl rfl rfl rfl ?_
  show Go none (Ev (d + 3)) mt65 0 [some (pvR 0 0 p), some (pvI x1), some (pvI x2), none] [] (true, n, e, σ) (0, some (pvI r.1), true, n, e, r.2)
  refine go_aload_n (pc' := 1) dX0_setHidden_0 rfl rfl (Nat.le_of_ble_eq_true rfl) ?_
  refine go_iload_n (pc' := 2) dX0_setHidden_1 rfl rfl ?_
  obtain ⟨v1, k2, h⟩ := bd h
  have k2 := l_D_has (d + 2) n e σ p x1 _ k2
  refine go_call (kc := 23) (Mc := mt23) (v := some (pvI v1)) (w' := (true, n, e, σ)) (pc' := 5) (st' := [pvI v1]) [pvR 0 0 p, pvI x1] [] (Or.inl rfl) dX0_setHidden_2 rfl rm_0_65 mtE23 rfl rfl rfl (Nat.le_of_ble_eq_true rfl) (Or.inr ⟨_, _, p, rfl, Or.inl rfl⟩) k2 rfl ?_
  refine go_if_ne (t := 10) (pc' := 8) dX0_setHidden_5 rfl rfl (fun c10 => ?_) (fun c10 => ?_)
  · rw [if_pos (show v1 ≠ 0 from c10)] at h
    refine go_aload_n (pc' := 11) dX0_setHidden_10 rfl rfl (Nat.le_of_ble_eq_true rfl) ?_
    refine go_getR (k' := 14) (L0 := 12) (P' := (p + 10)) (pc' := 14) dX0_setHidden_11 rfl rf_0_38 rfl rfl (by omega) ?_
    refine go_iload_n (pc' := 15) dX0_setHidden_14 rfl rfl ?_
    obtain ⟨g3, h⟩ := gd h
    refine go_zald (pc' := 16) dX0_setHidden_15 rfl g3 ?_
    refine go_istore_n (L' := [some (pvR 0 0 p), some (pvI x1), some (pvI x2), some (pvI (σ (p + 10) x1))]) (pc' := 17) dX0_setHidden_16 rfl (Nat.le_of_ble_eq_true rfl) rfl ?_
    refine go_aload_n (pc' := 18) dX0_setHidden_17 rfl rfl (Nat.le_of_ble_eq_true rfl) ?_
    refine go_getR (k' := 14) (L0 := 12) (P' := (p + 10)) (pc' := 21) dX0_setHidden_18 rfl rf_0_38 rfl rfl (by omega) ?_
    refine go_iload_n (pc' := 22) dX0_setHidden_21 rfl rfl ?_
    refine go_iload_n (pc' := 23) dX0_setHidden_22 rfl rfl ?_
    obtain ⟨g4, h⟩ := gd h
    obtain ⟨g5, h⟩ := gd h
    refine go_zast (pc' := 24) dX0_setHidden_23 rfl g4 g5 ?_
    refine go_aload_n (pc' := 25) dX0_setHidden_24 rfl rfl (Nat.le_of_ble_eq_true rfl) ?_
    obtain ⟨v6, k7, h⟩ := bd h
    have k7 := l_D_settle (d + 0) n e (hset σ (p + 10) x1 x2) p _ k7
    refine go_call (kc := 35) (Mc := mt35) (v := none) (w' := (true, n, e, v6)) (pc' := 28) (st' := []) [pvR 0 0 p] [] (Or.inl rfl) dX0_setHidden_25 rfl rm_0_76 mtE35 rfl rfl rfl (Nat.le_of_ble_eq_true rfl) (Or.inr ⟨_, _, p, rfl, Or.inl rfl⟩) k7 rfl ?_
    refine go_iload_n (pc' := 29) dX0_setHidden_28 rfl rfl ?_
    obtain ⟨g8, h⟩ := gd h
    cases h
    exact go_zret dX0_setHidden_29 rfl g8 rfl
  · rw [if_neg (show ¬ (v1 ≠ 0) from c10)] at h
    refine go_iconst (pc' := 9) dX0_setHidden_8 rfl (r32_c rfl) ?_
    obtain ⟨g9, h⟩ := gd h
    cases h
    exact go_zret dX0_setHidden_9 rfl g9 rfl

set_option maxRecDepth 10000 in
theorem l_C_hide (d : Nat) (n e : Nat) (σ : Hp) (x1 : Int) (x2 : Int) (x3 : Int) (r : Nat × Int × Hp) (h : f_C_hide σ x1 x2 x3 = some r) : Ev (d + 5) 64 [pvR 10 0 0, pvI x1, pvI x2, pvI x3] (true, n, e, σ) (r.1, if r.1 = 0 then some (pvI r.2.1) else none, true, n, e + if r.1 = 0 then 0 else 1, r.2.2) := by
  unfold f_C_hide at h
  refine Ev.of mtE64 rfl rfl rfl rfl ?_
  show Go none (Ev (d + 4)) mt64 0 [some (pvR 10 0 0), some (pvI x1), some (pvI x2), some (pvI x3), none, none] [] (true, n, e, σ) (r.1, if r.1 = 0 then some (pvI r.2.1) else none, true, n, e + if r.1 = 0 then 0 else 1, r.2.2)
  refine go_aload_n (pc' := 1) dX10_hide_0 rfl rfl (Nat.le_of_ble_eq_true rfl) ?_
  refine go_iload_n (pc' := 2) dX10_hide_1 rfl rfl ?_
  obtain ⟨v1, k2, h⟩ := bd h
  by_cases c3 : v1.1 = 0
  · rw [if_pos c3] at h
    have k2 := l_C_existing (d + 2) n e σ x1 _ k2
    rw [c3] at k2
    refine go_call (kc := 20) (Mc := mt20) (v := some (pvR 0 0 v1.2)) (w' := (true, n, e, σ)) (pc' := 5) (st' := [pvR 0 0 v1.2]) [pvR 10 0 0, pvI x1] [] (Or.inl rfl) dX10_hide_2 rfl rm_10_62 mtE20 rfl rfl rfl (Nat.le_of_ble_eq_true rfl) (Or.inr ⟨_, _, 0, rfl, Or.inl rfl⟩) k2 rfl ?_
    refine go_astore (L' := [some (pvR 10 0 0), some (pvI x1), some (pvI x2), some (pvI x3), some (pvR 0 0 v1.2), none]) (pc' := 7) dX10_hide_5 rfl (Nat.le_of_ble_eq_true rfl) (Nat.le_of_ble_eq_true rfl) rfl ?_
    refine go_aload (pc' := 9) dX10_hide_7 rfl rfl (Nat.le_of_ble_eq_true rfl) ?_
    refine go_iload_n (pc' := 10) dX10_hide_9 rfl rfl ?_
    obtain ⟨v4, k5, h⟩ := bd h
    by_cases c6 : v4 = 0
    · rw [if_pos c6] at h
      have k5 := l_C_needMember (d + 2) n e σ v1.2 x2 _ k5
      rw [c6] at k5
      refine go_call (kc := 22) (Mc := mt22) (v := none) (w' := (true, n, e, σ)) (pc' := 13) (st' := []) [pvR 0 0 v1.2, pvI x2] [] (Or.inr (Or.inl rfl)) dX10_hide_10 rfl rm_10_66 mtE22 rfl rfl rfl (Nat.le_of_ble_eq_true rfl) (Or.inl (by decide)) k5 rfl ?_
      refine go_iload_n (pc' := 14) dX10_hide_13 rfl rfl ?_
      refine go_if_ne (t := 27) (pc' := 17) dX10_hide_14 rfl rfl (fun c18 => ?_) (fun c18 => ?_)
      · rw [if_pos (show x2 ≠ 0 from c18)] at h
        refine go_aload (pc' := 29) dX10_hide_27 rfl rfl (Nat.le_of_ble_eq_true rfl) ?_
        refine go_iload_n (pc' := 30) dX10_hide_29 rfl rfl ?_
        obtain ⟨v7, k8, h⟩ := bd h
        have k8 := l_D_isPlain (d + 2) n e σ v1.2 x2 _ k8
        refine go_call (kc := 25) (Mc := mt25) (v := some (pvI v7)) (w' := (true, n, e, σ)) (pc' := 33) (st' := [pvI v7]) [pvR 0 0 v1.2, pvI x2] [] (Or.inl rfl) dX10_hide_30 rfl rm_10_74 mtE25 rfl rfl rfl (Nat.le_of_ble_eq_true rfl) (Or.inr ⟨_, _, v1.2, rfl, Or.inl rfl⟩) k8 rfl ?_
        obtain ⟨v9, k10, h⟩ := bd h
        by_cases c11 : v9 = 0
        · rw [if_pos c11] at h
          have k10 := l_C_need (d + 3) n e σ v7 _ k10
          rw [c11] at k10
          refine go_call (kc := 26) (Mc := mt26) (v := none) (w' := (true, n, e, σ)) (pc' := 36) (st' := []) [pvI v7] [] (Or.inr (Or.inl rfl)) dX10_hide_33 rfl rm_10_84 mtE26 rfl rfl rfl (Nat.le_of_ble_eq_true rfl) (Or.inl (by decide)) k10 rfl ?_
          refine go_aload (pc' := 38) dX10_hide_36 rfl rfl (Nat.le_of_ble_eq_true rfl) ?_
          refine go_iload_n (pc' := 39) dX10_hide_38 rfl rfl ?_
          refine go_iload_n (pc' := 40) dX10_hide_39 rfl rfl ?_
          obtain ⟨v12, k13, h⟩ := bd h
          have k13 := l_D_setHidden (d + 0) n e σ v1.2 x2 x3 _ k13
          refine go_call (kc := 65) (Mc := mt65) (v := some (pvI v12.1)) (w' := (true, n, e, v12.2)) (pc' := 43) (st' := [pvI v12.1]) [pvR 0 0 v1.2, pvI x2, pvI x3] [] (Or.inl rfl) dX10_hide_40 rfl rm_10_186 mtE65 rfl rfl rfl (Nat.le_of_ble_eq_true rfl) (Or.inr ⟨_, _, v1.2, rfl, Or.inl rfl⟩) k13 rfl ?_
          refine go_istore (L' := [some (pvR 10 0 0), some (pvI x1), some (pvI x2), some (pvI x3), some (pvR 0 0 v1.2), some (pvI v12.1)]) (pc' := 45) dX10_hide_43 rfl (Nat.le_of_ble_eq_true rfl) rfl ?_
          refine go_aload_n (pc' := 46) dX10_hide_45 rfl rfl (Nat.le_of_ble_eq_true rfl) ?_
          refine go_getR (k' := 3) (L0 := 0) (P' := 108) (pc' := 49) dX10_hide_46 rfl rf_10_35 rfl rfl (by omega) ?_
          obtain ⟨v14, k15, h⟩ := bd h
          have k15 := l_K_dropAll (d + 3) n e v12.2 _ k15
          refine go_call (kc := 13) (Mc := mt13) (v := none) (w' := (true, n, e, v14)) (pc' := 52) (st' := []) [pvR 3 0 108] [] (Or.inl rfl) dX10_hide_49 rfl rm_10_105 mtE13 rfl rfl rfl (Nat.le_of_ble_eq_true rfl) (Or.inr ⟨_, _, 108, rfl, Or.inl rfl⟩) k15 rfl ?_
          refine go_iload (pc' := 54) dX10_hide_52 rfl rfl ?_
          obtain ⟨g16, h⟩ := gd h
          cases h
          exact go_zret dX10_hide_54 rfl g16 rfl
        · rw [if_neg c11] at h
          obtain ⟨g17, h⟩ := gd h
          cases h
          have k10 := l_C_need (d + 3) n e σ v7 _ k10
          simp only [if_neg c11] at k10 ⊢
          exact go_callX (kc := 26) (Mc := mt26) [pvI v7] [] (Or.inr rfl) dX10_hide_33 rm_10_84 mtE26 rfl rfl rfl (Nat.le_of_ble_eq_true rfl) (Or.inl (by decide)) rfl c11 g17 k10 rfl
      · rw [if_neg (show ¬ (x2 ≠ 0) from c18)] at h
        cases h
        exact go_throw (x := 1) (ic := 112) (ln := 2) (tx := "the member 0 cannot be hidden") dX10_hide_17 rt_10_108 rfl rfl (Nat.le_of_ble_eq_true rfl) dX10_hide_20 (Or.inl ⟨dX10_hide_21, rfl⟩) dX10_hide_23 dX10_hide_26 (Or.inl ⟨rfl, rfl⟩) (by decide +kernel) rfl
    · rw [if_neg c6] at h
      obtain ⟨g19, h⟩ := gd h
      cases h
      have k5 := l_C_needMember (d + 2) n e σ v1.2 x2 _ k5
      simp only [if_neg c6] at k5 ⊢
      exact go_callX (kc := 22) (Mc := mt22) [pvR 0 0 v1.2, pvI x2] [] (Or.inr rfl) dX10_hide_10 rm_10_66 mtE22 rfl rfl rfl (Nat.le_of_ble_eq_true rfl) (Or.inl (by decide)) rfl c6 g19 k5 rfl
  · rw [if_neg c3] at h
    obtain ⟨g20, h⟩ := gd h
    cases h
    have k2 := l_C_existing (d + 2) n e σ x1 _ k2
    simp only [if_neg c3] at k2 ⊢
    exact go_callX (kc := 20) (Mc := mt20) [pvR 10 0 0, pvI x1] [] (Or.inl rfl) dX10_hide_2 rm_10_62 mtE20 rfl rfl rfl (Nat.le_of_ble_eq_true rfl) (Or.inr ⟨_, _, 0, rfl, Or.inl rfl⟩) rfl c3 g20 k2 rfl

set_option maxRecDepth 10000 in
theorem l_L_hide (d : Nat) (n e : Nat) (σ : Hp) (x2 : Int) (x3 : Int) (x4 : Int) (r : Int × Nat × Hp) (h : f_L_hide σ e x2 x3 x4 = some r) : Ev (d + 6) 63 [pvR 10 0 0, pvI x2, pvI x3, pvI x4, pvR 13 1 170] (true, n, e, σ) (0, some (pvI r.1), true, n, r.2.1, r.2.2) := by
  unfold f_L_hide at h
  refine Ev.of mtE63 rfl rfl rfl rfl ?_
  show Go none (Ev (d + 5)) mt63 0 [some (pvR 10 0 0), some (pvI x2), some (pvI x3), some (pvI x4), some (pvR 13 1 170), none] [] (true, n, e, σ) (0, some (pvI r.1), true, n, r.2.1, r.2.2)
  refine go_aload (pc' := 2) dL_hide_0 rfl rfl (Nat.le_of_ble_eq_true rfl) ?_
  refine go_iconst (pc' := 3) dL_hide_2 rfl (r32_c rfl) ?_
  refine go_aload_n (pc' := 4) dL_hide_3 rfl rfl (Nat.le_of_ble_eq_true rfl) ?_
  refine go_iload_n (pc' := 5) dL_hide_4 rfl rfl ?_
  refine go_iload_n (pc' := 6) dL_hide_5 rfl rfl ?_
  refine go_iload_n (pc' := 7) dL_hide_6 rfl rfl ?_
  obtain ⟨v1, k2, h⟩ := bd h
  by_cases c3 : v1.1 = 0
  · rw [if_pos c3] at h
    have k2 := l_C_hide (d + 0) n e σ x2 x3 x4 _ k2
    rw [c3] at k2
    refine go_call (kc := 64) (Mc := mt64) (v := some (pvI v1.2.1)) (w' := (true, n, e, v1.2.2)) (pc' := 10) (st' := [pvI v1.2.1, pvI 0, pvR 13 1 170]) [pvR 10 0 0, pvI x2, pvI x3, pvI x4] [pvI 0, pvR 13 1 170] (Or.inl rfl) dL_hide_7 rfl rm_12_36 mtE64 rfl rfl rfl (Nat.le_of_ble_eq_true rfl) (Or.inr ⟨_, _, 0, rfl, Or.inl rfl⟩) k2 rfl ?_
    obtain ⟨j4, k5, h⟩ := bd h
    have k5J : Go none (Ev (d + 5)) mt63 18 [some (pvR 10 0 0), some (pvI x2), some (pvI x3), some (pvI x4), some (pvR 13 1 170), none] [pvL j4, pvI 0, pvR 13 1 170] (true, n, e, v1.2.2) (0, some (pvI r.1), true, n, r.2.1, r.2.2) := by
      obtain ⟨g6, h⟩ := gd h
      refine go_last (pc' := 19) dL_hide_18 rfl g6 ?_
      refine go_goto (t := 30) dL_hide_19 rfl ?_
      refine go_iconst (pc' := 31) dL_hide_30 rfl (r32_c rfl) ?_
      cases h
      exact go_iret dL_hide_31 rfl rfl
    clear h
    have h := k5
    refine go_if_eq (t := 17) (pc' := 13) dL_hide_10 rfl rfl (fun c7 => ?_) (fun c7 => ?_)
    · rw [if_pos (show v1.2.1 = 0 from c7)] at h
      refine go_lconst (z := 0) (pc' := 18) dL_hide_17 rfl rfl ?_
      cases h
      exact k5J
    · rw [if_neg (show ¬ (v1.2.1 = 0) from c7)] at h
      refine go_lconst (z := 1) (pc' := 14) dL_hide_13 rfl rfl ?_
      refine go_goto (t := 18) dL_hide_14 rfl ?_
      cases h
      exact k5J
  · rw [if_neg c3] at h
    by_cases c8 : v1.1 = 1
    · rw [if_pos c8] at h
      have k2 := l_C_hide (d + 0) n e σ x2 x3 x4 _ k2
      rw [c8] at k2
      refine go_callH (x := 1) (kc := 64) (Mc := mt64) (h := 22) (i := 5) (ln := 2) (w' := (true, n, (e + 1), v1.2.2)) (pc' := 24) (L' := [some (pvR 10 0 0), some (pvI x2), some (pvI x3), some (pvI x4), some (pvR 13 1 170), none]) [pvR 10 0 0, pvI x2, pvI x3, pvI x4] [pvI 0, pvR 13 1 170] (Or.inl rfl) dL_hide_7 rm_12_36 mtE64 rfl rfl rfl (Nat.le_of_ble_eq_true rfl) (Or.inr ⟨_, _, 0, rfl, Or.inl rfl⟩) (by decide +kernel) (by decide) (by decide) (Or.inl ⟨dL_hide_22, rfl⟩) (Nat.le_of_ble_eq_true rfl) rfl rfl k2 ?_
      refine go_iconst (pc' := 25) dL_hide_24 rfl (r32_c rfl) ?_
      cases h
      exact go_iret dL_hide_25 rfl rfl
    · rw [if_neg c8] at h
      by_cases c9 : v1.1 = 3
      · rw [if_pos c9] at h
        have k2 := l_C_hide (d + 0) n e σ x2 x3 x4 _ k2
        rw [c9] at k2
        refine go_callH (x := 3) (kc := 64) (Mc := mt64) (h := 26) (i := 5) (ln := 2) (w' := (true, n, (e + 1), v1.2.2)) (pc' := 28) (L' := [some (pvR 10 0 0), some (pvI x2), some (pvI x3), some (pvI x4), some (pvR 13 1 170), none]) [pvR 10 0 0, pvI x2, pvI x3, pvI x4] [pvI 0, pvR 13 1 170] (Or.inl rfl) dL_hide_7 rm_12_36 mtE64 rfl rfl rfl (Nat.le_of_ble_eq_true rfl) (Or.inr ⟨_, _, 0, rfl, Or.inl rfl⟩) (by decide +kernel) (by decide) (by decide) (Or.inl ⟨dL_hide_26, rfl⟩) (Nat.le_of_ble_eq_true rfl) rfl rfl k2 ?_
        refine go_iconst (pc' := 29) dL_hide_28 rfl (r32_c rfl) ?_
        cases h
        exact go_iret dL_hide_29 rfl rfl
      · rw [if_neg c9] at h
        cases h

set_option maxRecDepth 10000 in
theorem l_MS_has (d : Nat) (n e : Nat) (σ : Hp) (x1 : Int) (r : Int) (h : f_MS_has σ x1 = some r) : Ev (d + 1) 69 [pvR 4 0 95, pvI x1] (true, n, e, σ) (0, some (pvI r), true, n, e, σ) := by
  unfold f_MS_has at h
  refine Ev.of mtE69 rfl rfl rfl rfl ?_
  show Go none (Ev (d + 0)) mt69 0 [some (pvR 4 0 95), some (pvI x1)] [] (true, n, e, σ) (0, some (pvI r), true, n, e, σ)
  refine go_iload_n (pc' := 1) dX4_has_0 rfl rfl ?_
  obtain ⟨j1, k2, h⟩ := bd h
  have k2J : Go none (Ev (d + 0)) mt69 22 [some (pvR 4 0 95), some (pvI x1)] [pvI j1] (true, n, e, σ) (0, some (pvI r), true, n, e, σ) := by
    obtain ⟨g5, h⟩ := gd h
    cases h
    exact go_zret dX4_has_22 rfl g5 rfl
  clear h
  have h := k2
  refine go_if_lt (t := 21) (pc' := 4) dX4_has_1 rfl rfl (fun c6 => ?_) (fun c6 => ?_)
  · rw [if_pos (show x1 < 0 from c6)] at h
    refine go_iconst (pc' := 22) dX4_has_21 rfl (r32_c rfl) ?_
    cases h
    exact k2J
  · rw [if_neg (show ¬ (x1 < 0) from c6)] at h
    refine go_iload_n (pc' := 5) dX4_has_4 rfl rfl ?_
    refine go_aload_n (pc' := 6) dX4_has_5 rfl rfl (Nat.le_of_ble_eq_true rfl) ?_
    refine go_getI (pc' := 9) dX4_has_6 rfl rf_4_27 rfl ?_
    refine go_icmp_ge (t := 21) (pc' := 12) dX4_has_9 rfl rfl (fun c4 => ?_) (fun c4 => ?_)
    · rw [if_pos (show (σ 95 0) ≤ x1 from c4)] at h
      refine go_iconst (pc' := 22) dX4_has_21 rfl (r32_c rfl) ?_
      cases h
      exact k2J
    · rw [if_neg (show ¬ ((σ 95 0) ≤ x1) from c4)] at h
      refine go_iload_n (pc' := 13) dX4_has_12 rfl rfl ?_
      refine go_iconst (pc' := 14) dX4_has_13 rfl (r32_c rfl) ?_
      refine go_icmp_ge (t := 21) (pc' := 17) dX4_has_14 rfl rfl (fun c3 => ?_) (fun c3 => ?_)
      · rw [if_pos (show 4 ≤ x1 from c3)] at h
        refine go_iconst (pc' := 22) dX4_has_21 rfl (r32_c rfl) ?_
        cases h
        exact k2J
      · rw [if_neg (show ¬ (4 ≤ x1) from c3)] at h
        refine go_iconst (pc' := 18) dX4_has_17 rfl (r32_c rfl) ?_
        refine go_goto (t := 22) dX4_has_18 rfl ?_
        cases h
        exact k2J

set_option maxRecDepth 10000 in
theorem l_C_needMeasure (d : Nat) (n e : Nat) (σ : Hp) (x1 : Int) (r : Nat) (h : f_C_needMeasure σ x1 = some r) : Ev (d + 2) 68 [pvR 10 0 0, pvI x1] (true, n, e, σ) (r, none, true, n, e + if r = 0 then 0 else 1, σ) := by
  unfold f_C_needMeasure at h
  refine Ev.of mtE68 rfl rfl rfl rfl ?_
  show Go none (Ev (d + 1)) mt68 0 [some (pvR 10 0 0), some (pvI x1)] [] (true, n, e, σ) (r, none, true, n, e + if r = 0 then 0 else 1, σ)
  refine go_aload_n (pc' := 1) dX10_needMeasure_0 rfl rfl (Nat.le_of_ble_eq_true rfl) ?_
  refine go_getR (k' := 4) (L0 := 0) (P' := 95) (pc' := 4) dX10_needMeasure_1 rfl rf_10_21 rfl rfl (by omega) ?_
  refine go_iload_n (pc' := 5) dX10_needMeasure_4 rfl rfl ?_
  obtain ⟨v1, k2, h⟩ := bd h
  have k2 := l_MS_has (d + 0) n e σ x1 _ k2
  refine go_call (kc := 69) (Mc := mt69) (v := some (pvI v1)) (w' := (true, n, e, σ)) (pc' := 8) (st' := [pvI v1]) [pvR 4 0 95, pvI x1] [] (Or.inl rfl) dX10_needMeasure_5 rfl rm_10_330 mtE69 rfl rfl rfl (Nat.le_of_ble_eq_true rfl) (Or.inr ⟨_, _, 95, rfl, Or.inl rfl⟩) k2 rfl ?_
  refine go_if_ne (t := 22) (pc' := 11) dX10_needMeasure_8 rfl rfl (fun c3 => ?_) (fun c3 => ?_)
  · rw [if_pos (show v1 ≠ 0 from c3)] at h
    cases h
    exact go_vret dX10_needMeasure_22 rfl rfl
  · rw [if_neg (show ¬ (v1 ≠ 0) from c3)] at h
    cases h
    exact go_throw (x := 1) (ic := 112) (ln := 3) (tx := "no such measure") dX10_needMeasure_11 rt_10_108 rfl rfl (Nat.le_of_ble_eq_true rfl) dX10_needMeasure_14 (Or.inr ⟨dX10_needMeasure_15, rfl⟩) dX10_needMeasure_18 dX10_needMeasure_21 (Or.inl ⟨rfl, rfl⟩) (by decide +kernel) rfl

set_option maxRecDepth 10000 in
theorem l_MS_add (d : Nat) (n e : Nat) (σ : Hp) (x1 : Int) (x2 : Int) (x3 : Int) (r : Int × Hp) (h : f_MS_add σ x1 x2 x3 = some r) : Ev (d + 2) 70 [pvR 4 0 95, pvI x1, pvI x2, pvI x3] (true, n, e, σ) (0, some (pvI r.1), true, n, e, r.2) := by
  unfold f_MS_add at h
  refine Ev.of mtE70 rfl rfl rfl rfl ?_
  show Go none (Ev (d + 1)) mt70 0 [some (pvR 4 0 95), some (pvI x1), some (pvI x2), some (pvI x3)] [] (true, n, e, σ) (0, some (pvI r.1), true, n, e, r.2)
  refine go_aload_n (pc' := 1) dX4_add_0 rfl rfl (Nat.le_of_ble_eq_true rfl) ?_
  refine go_getI (pc' := 4) dX4_add_1 rfl rf_4_27 rfl ?_
  refine go_iconst (pc' := 5) dX4_add_4 rfl (r32_c rfl) ?_
  refine go_icmp_lt (t := 10) (pc' := 8) dX4_add_5 rfl rfl (fun c20 => ?_) (fun c20 => ?_)
  · rw [if_pos (show (σ 95 0) < 4 from c20)] at h
    refine go_aload_n (pc' := 11) dX4_add_10 rfl rfl (Nat.le_of_ble_eq_true rfl) ?_
    refine go_getR (k' := 12) (L0 := 4) (P' := 96) (pc' := 14) dX4_add_11 rfl rf_4_9 rfl rfl (by omega) ?_
    refine go_aload_n (pc' := 15) dX4_add_14 rfl rfl (Nat.le_of_ble_eq_true rfl) ?_
    refine go_getI (pc' := 18) dX4_add_15 rfl rf_4_27 rfl ?_
    refine go_iload_n (pc' := 19) dX4_add_18 rfl rfl ?_
    obtain ⟨g1, h⟩ := gd h
    refine go_iast (pc' := 20) dX4_add_19 rfl g1 ?_
    refine go_aload_n (pc' := 21) dX4_add_20 rfl rfl (Nat.le_of_ble_eq_true rfl) ?_
    refine go_getR (k' := 12) (L0 := 4) (P' := 99) (pc' := 24) dX4_add_21 rfl rf_4_21 rfl rfl (by omega) ?_
    refine go_aload_n (pc' := 25) dX4_add_24 rfl rfl (Nat.le_of_ble_eq_true rfl) ?_
    refine go_getI (pc' := 28) dX4_add_25 rfl rf_4_27 rfl ?_
    refine go_iconst (pc' := 29) dX4_add_28 rfl (r32_c rfl) ?_
    refine go_aload_n (pc' := 30) dX4_add_29 rfl rfl (Nat.le_of_ble_eq_true rfl) ?_
    refine go_getI (pc' := 33) dX4_add_30 rfl rf_4_27 rfl ?_
    refine go_ishl (pc' := 34) dX4_add_33 rfl ?_
    obtain ⟨g2, h⟩ := gd h
    refine go_iast (pc' := 35) dX4_add_34 rfl g2 ?_
    refine go_iload_n (pc' := 36) dX4_add_35 rfl rfl ?_
    refine go_iconst (pc' := 37) dX4_add_36 rfl (r32_c rfl) ?_
    obtain ⟨j3, k4, h⟩ := bd h
    have k4J : Go none (Ev (d + 1)) mt70 101 [some (pvR 4 0 95), some (pvI x1), some (pvI x2), some (pvI x3)] [] (true, n, e, j3) (0, some (pvI r.1), true, n, e, r.2) := by
      refine go_aload_n (pc' := 102) dX4_add_101 rfl rfl (Nat.le_of_ble_eq_true rfl) ?_
      refine go_dup (pc' := 103) dX4_add_102 rfl (Nat.ne_of_beq_eq_false rfl) ?_
      refine go_getI (pc' := 106) dX4_add_103 rfl rf_4_27 rfl ?_
      refine go_iconst (pc' := 107) dX4_add_106 rfl (r32_c rfl) ?_
      obtain ⟨g17, h⟩ := gd h
      refine go_iadd (pc' := 108) dX4_add_107 rfl g17 ?_
      refine go_putI (pc' := 111) dX4_add_108 rfl rf_4_27 rfl ?_
      refine go_aload_n (pc' := 112) dX4_add_111 rfl rfl (Nat.le_of_ble_eq_true rfl) ?_
      refine go_getI (pc' := 115) dX4_add_112 rfl rf_4_27 rfl ?_
      refine go_iconst (pc' := 116) dX4_add_115 rfl (r32_c rfl) ?_
      obtain ⟨g18, h⟩ := gd h
      refine go_isub (pc' := 117) dX4_add_116 rfl g18 ?_
      cases h
      exact go_iret dX4_add_117 rfl rfl
    clear h
    have h := k4
    refine go_icmp_ne (t := 101) (pc' := 40) dX4_add_37 rfl rfl (fun c19 => ?_) (fun c19 => ?_)
    · rw [if_pos (show x1 ≠ 3 from c19)] at h
      cases h
      exact k4J
    · rw [if_neg (show ¬ (x1 ≠ 3) from c19)] at h
      refine go_aload_n (pc' := 41) dX4_add_40 rfl rfl (Nat.le_of_ble_eq_true rfl) ?_
      refine go_iload_n (pc' := 42) dX4_add_41 rfl rfl ?_
      obtain ⟨v5, k6, h⟩ := bd h
      have k6 := l_MS_has (d + 0) n e (hset (hset σ 96 (σ 95 0) x1) 99 ((hset σ 96 (σ 95 0) x1) 95 0) (ishl 1 ((hset σ 96 (σ 95 0) x1) 95 0))) x2 _ k6
      refine go_call (kc := 69) (Mc := mt69) (v := some (pvI v5)) (w' := (true, n, e, (hset (hset σ 96 (σ 95 0) x1) 99 ((hset σ 96 (σ 95 0) x1) 95 0) (ishl 1 ((hset σ 96 (σ 95 0) x1) 95 0))))) (pc' := 45) (st' := [pvI v5]) [pvR 4 0 95, pvI x2] [] (Or.inl rfl) dX4_add_42 rfl rm_4_31 mtE69 rfl rfl rfl (Nat.le_of_ble_eq_true rfl) (Or.inr ⟨_, _, 95, rfl, Or.inl rfl⟩) k6 rfl ?_
      refine go_if_eq (t := 101) (pc' := 48) dX4_add_45 rfl rfl (fun c16 => ?_) (fun c16 => ?_)
      · rw [if_pos (show v5 = 0 from c16)] at h
        cases h
        exact k4J
      · rw [if_neg (show ¬ (v5 = 0) from c16)] at h
        refine go_aload_n (pc' := 49) dX4_add_48 rfl rfl (Nat.le_of_ble_eq_true rfl) ?_
        refine go_iload_n (pc' := 50) dX4_add_49 rfl rfl ?_
        obtain ⟨v7, k8, h⟩ := bd h
        have k8 := l_MS_has (d + 0) n e (hset (hset σ 96 (σ 95 0) x1) 99 ((hset σ 96 (σ 95 0) x1) 95 0) (ishl 1 ((hset σ 96 (σ 95 0) x1) 95 0))) x3 _ k8
        refine go_call (kc := 69) (Mc := mt69) (v := some (pvI v7)) (w' := (true, n, e, (hset (hset σ 96 (σ 95 0) x1) 99 ((hset σ 96 (σ 95 0) x1) 95 0) (ishl 1 ((hset σ 96 (σ 95 0) x1) 95 0))))) (pc' := 53) (st' := [pvI v7]) [pvR 4 0 95, pvI x3] [] (Or.inl rfl) dX4_add_50 rfl rm_4_31 mtE69 rfl rfl rfl (Nat.le_of_ble_eq_true rfl) (Or.inr ⟨_, _, 95, rfl, Or.inl rfl⟩) k8 rfl ?_
        refine go_if_eq (t := 101) (pc' := 56) dX4_add_53 rfl rfl (fun c15 => ?_) (fun c15 => ?_)
        · rw [if_pos (show v7 = 0 from c15)] at h
          cases h
          exact k4J
        · rw [if_neg (show ¬ (v7 = 0) from c15)] at h
          refine go_aload_n (pc' := 57) dX4_add_56 rfl rfl (Nat.le_of_ble_eq_true rfl) ?_
          refine go_getR (k' := 12) (L0 := 4) (P' := 97) (pc' := 60) dX4_add_57 rfl rf_4_15 rfl rfl (by omega) ?_
          refine go_aload_n (pc' := 61) dX4_add_60 rfl rfl (Nat.le_of_ble_eq_true rfl) ?_
          refine go_getI (pc' := 64) dX4_add_61 rfl rf_4_27 rfl ?_
          refine go_iload_n (pc' := 65) dX4_add_64 rfl rfl ?_
          obtain ⟨g9, h⟩ := gd h
          refine go_iast (pc' := 66) dX4_add_65 rfl g9 ?_
          refine go_aload_n (pc' := 67) dX4_add_66 rfl rfl (Nat.le_of_ble_eq_true rfl) ?_
          refine go_getR (k' := 12) (L0 := 4) (P' := 98) (pc' := 70) dX4_add_67 rfl rf_4_18 rfl rfl (by omega) ?_
          refine go_aload_n (pc' := 71) dX4_add_70 rfl rfl (Nat.le_of_ble_eq_true rfl) ?_
          refine go_getI (pc' := 74) dX4_add_71 rfl rf_4_27 rfl ?_
          refine go_iload_n (pc' := 75) dX4_add_74 rfl rfl ?_
          obtain ⟨g10, h⟩ := gd h
          refine go_iast (pc' := 76) dX4_add_75 rfl g10 ?_
          refine go_aload_n (pc' := 77) dX4_add_76 rfl rfl (Nat.le_of_ble_eq_true rfl) ?_
          refine go_getR (k' := 12) (L0 := 4) (P' := 99) (pc' := 80) dX4_add_77 rfl rf_4_21 rfl rfl (by omega) ?_
          refine go_aload_n (pc' := 81) dX4_add_80 rfl rfl (Nat.le_of_ble_eq_true rfl) ?_
          refine go_getI (pc' := 84) dX4_add_81 rfl rf_4_27 rfl ?_
          refine go_dup2 (pc' := 85) dX4_add_84 rfl (Nat.ne_of_beq_eq_false rfl) (Nat.ne_of_beq_eq_false rfl) ?_
          obtain ⟨g11, h⟩ := gd h
          refine go_iald (pc' := 86) dX4_add_85 rfl g11 ?_
          refine go_aload_n (pc' := 87) dX4_add_86 rfl rfl (Nat.le_of_ble_eq_true rfl) ?_
          refine go_getR (k' := 12) (L0 := 4) (P' := 99) (pc' := 90) dX4_add_87 rfl rf_4_21 rfl rfl (by omega) ?_
          refine go_iload_n (pc' := 91) dX4_add_90 rfl rfl ?_
          obtain ⟨g12, h⟩ := gd h
          refine go_iald (pc' := 92) dX4_add_91 rfl g12 ?_
          refine go_aload_n (pc' := 93) dX4_add_92 rfl rfl (Nat.le_of_ble_eq_true rfl) ?_
          refine go_getR (k' := 12) (L0 := 4) (P' := 99) (pc' := 96) dX4_add_93 rfl rf_4_21 rfl rfl (by omega) ?_
          refine go_iload_n (pc' := 97) dX4_add_96 rfl rfl ?_
          obtain ⟨g13, h⟩ := gd h
          refine go_iald (pc' := 98) dX4_add_97 rfl g13 ?_
          refine go_ior (pc' := 99) dX4_add_98 rfl ?_
          refine go_ior (pc' := 100) dX4_add_99 rfl ?_
          obtain ⟨g14, h⟩ := gd h
          refine go_iast (pc' := 101) dX4_add_100 rfl g14 ?_
          cases h
          exact k4J
  · rw [if_neg (show ¬ ((σ 95 0) < 4) from c20)] at h
    refine go_iconst (pc' := 9) dX4_add_8 rfl (r32_c rfl) ?_
    cases h
    exact go_iret dX4_add_9 rfl rfl

set_option maxRecDepth 10000 in
theorem l_C_measure (d : Nat) (n e : Nat) (σ : Hp) (x1 : Int) (x2 : Int) (x3 : Int) (r : Nat × Int × Hp) (h : f_C_measure σ x1 x2 x3 = some r) : Ev (d + 3) 67 [pvR 10 0 0, pvI x1, pvI x2, pvI x3] (true, n, e, σ) (r.1, if r.1 = 0 then some (pvI r.2.1) else none, true, n, e + if r.1 = 0 then 0 else 1, r.2.2) := by
  unfold f_C_measure at h
  refine Ev.of mtE67 rfl rfl rfl rfl ?_
  show Go none (Ev (d + 2)) mt67 0 [some (pvR 10 0 0), some (pvI x1), some (pvI x2), some (pvI x3), none] [] (true, n, e, σ) (r.1, if r.1 = 0 then some (pvI r.2.1) else none, true, n, e + if r.1 = 0 then 0 else 1, r.2.2)
  refine go_iload_n (pc' := 1) dX10_measure_0 rfl rfl ?_
  refine go_iconst (pc' := 2) dX10_measure_1 rfl (r32_c rfl) ?_
  obtain ⟨j1, k2, h⟩ := bd h
  have k2J : j1.1 = 0 → Go none (Ev (d + 2)) mt67 15 [some (pvR 10 0 0), some (pvI x1), some (pvI x2), some (pvI x3), none] [] (true, n, e, σ) (r.1, if r.1 = 0 then some (pvI r.2.1) else none, true, n, e + if r.1 = 0 then 0 else 1, r.2.2) := by
    intro c27
    rw [if_pos c27] at h
    refine go_iload_n (pc' := 16) dX10_measure_15 rfl rfl ?_
    refine go_iconst (pc' := 17) dX10_measure_16 rfl (r32_c rfl) ?_
    refine go_iconst (pc' := 18) dX10_measure_17 rfl (r32_c rfl) ?_
    obtain ⟨v11, k12, h⟩ := bd h
    by_cases c13 : v11 = 0
    · rw [if_pos c13] at h
      have k12 := l_C_needRange (d + 1) n e σ x1 0 3 _ k12
      rw [c13] at k12
      refine go_call (kc := 24) (Mc := mt24) (v := none) (w' := (true, n, e, σ)) (pc' := 21) (st' := []) [pvI x1, pvI 0, pvI 3] [] (Or.inr (Or.inl rfl)) dX10_measure_18 rfl rm_10_70 mtE24 rfl rfl rfl (Nat.le_of_ble_eq_true rfl) (Or.inl (by decide)) k12 rfl ?_
      refine go_aload_n (pc' := 22) dX10_measure_21 rfl rfl (Nat.le_of_ble_eq_true rfl) ?_
      refine go_getR (k' := 4) (L0 := 0) (P' := 95) (pc' := 25) dX10_measure_22 rfl rf_10_21 rfl rfl (by omega) ?_
      refine go_getI (pc' := 28) dX10_measure_25 rfl rf_10_197 rfl ?_
      refine go_iconst (pc' := 29) dX10_measure_28 rfl (r32_c rfl) ?_
      obtain ⟨j14, k15, h⟩ := bd h
      have k15J : Go none (Ev (d + 2)) mt67 37 [some (pvR 10 0 0), some (pvI x1), some (pvI x2), some (pvI x3), none] [pvI j14] (true, n, e, σ) (r.1, if r.1 = 0 then some (pvI r.2.1) else none, true, n, e + if r.1 = 0 then 0 else 1, r.2.2) := by
        obtain ⟨v16, k17, h⟩ := bd h
        by_cases c18 : v16 = 0
        · rw [if_pos c18] at h
          have k17 := l_C_need (d + 1) n e σ j14 _ k17
          rw [c18] at k17
          refine go_call (kc := 26) (Mc := mt26) (v := none) (w' := (true, n, e, σ)) (pc' := 40) (st' := []) [pvI j14] [] (Or.inr (Or.inl rfl)) dX10_measure_37 rfl rm_10_84 mtE26 rfl rfl rfl (Nat.le_of_ble_eq_true rfl) (Or.inl (by decide)) k17 rfl ?_
          refine go_aload_n (pc' := 41) dX10_measure_40 rfl rfl (Nat.le_of_ble_eq_true rfl) ?_
          refine go_getR (k' := 4) (L0 := 0) (P' := 95) (pc' := 44) dX10_measure_41 rfl rf_10_21 rfl rfl (by omega) ?_
          refine go_iload_n (pc' := 45) dX10_measure_44 rfl rfl ?_
          refine go_iload_n (pc' := 46) dX10_measure_45 rfl rfl ?_
          refine go_iload_n (pc' := 47) dX10_measure_46 rfl rfl ?_
          obtain ⟨v19, k20, h⟩ := bd h
          have k20 := l_MS_add (d + 0) n e σ x1 x2 x3 _ k20
          refine go_call (kc := 70) (Mc := mt70) (v := some (pvI v19.1)) (w' := (true, n, e, v19.2)) (pc' := 50) (st' := [pvI v19.1]) [pvR 4 0 95, pvI x1, pvI x2, pvI x3] [] (Or.inl rfl) dX10_measure_47 rfl rm_10_198 mtE70 rfl rfl rfl (Nat.le_of_ble_eq_true rfl) (Or.inr ⟨_, _, 95, rfl, Or.inl rfl⟩) k20 rfl ?_
          refine go_istore (L' := [some (pvR 10 0 0), some (pvI x1), some (pvI x2), some (pvI x3), some (pvI v19.1)]) (pc' := 52) dX10_measure_50 rfl (Nat.le_of_ble_eq_true rfl) rfl ?_
          refine go_aload_n (pc' := 53) dX10_measure_52 rfl rfl (Nat.le_of_ble_eq_true rfl) ?_
          refine go_getR (k' := 3) (L0 := 0) (P' := 108) (pc' := 56) dX10_measure_53 rfl rf_10_35 rfl rfl (by omega) ?_
          obtain ⟨v21, k22, h⟩ := bd h
          have k22 := l_K_dropAll (d + 1) n e v19.2 _ k22
          refine go_call (kc := 13) (Mc := mt13) (v := none) (w' := (true, n, e, v21)) (pc' := 59) (st' := []) [pvR 3 0 108] [] (Or.inl rfl) dX10_measure_56 rfl rm_10_105 mtE13 rfl rfl rfl (Nat.le_of_ble_eq_true rfl) (Or.inr ⟨_, _, 108, rfl, Or.inl rfl⟩) k22 rfl ?_
          refine go_iload (pc' := 61) dX10_measure_59 rfl rfl ?_
          cases h
          exact go_iret dX10_measure_61 rfl rfl
        · rw [if_neg c18] at h
          obtain ⟨g23, h⟩ := gd h
          cases h
          have k17 := l_C_need (d + 1) n e σ j14 _ k17
          simp only [if_neg c18] at k17 ⊢
          exact go_callX (kc := 26) (Mc := mt26) [pvI j14] [] (Or.inr rfl) dX10_measure_37 rm_10_84 mtE26 rfl rfl rfl (Nat.le_of_ble_eq_true rfl) (Or.inl (by decide)) rfl c18 g23 k17 rfl
      clear h
      have h := k15
      refine go_icmp_ge (t := 36) (pc' := 32) dX10_measure_29 rfl rfl (fun c24 => ?_) (fun c24 => ?_)
      · rw [if_pos (show 4 ≤ (σ 95 0) from c24)] at h
        refine go_iconst (pc' := 37) dX10_measure_36 rfl (r32_c rfl) ?_
        cases h
        exact k15J
      · rw [if_neg (show ¬ (4 ≤ (σ 95 0)) from c24)] at h
        refine go_iconst (pc' := 33) dX10_measure_32 rfl (r32_c rfl) ?_
        refine go_goto (t := 37) dX10_measure_33 rfl ?_
        cases h
        exact k15J
    · rw [if_neg c13] at h
      obtain ⟨g25, h⟩ := gd h
      cases h
      have k12 := l_C_needRange (d + 1) n e σ x1 0 3 _ k12
      simp only [if_neg c13] at k12 ⊢
      exact go_callX (kc := 24) (Mc := mt24) [pvI x1, pvI 0, pvI 3] [] (Or.inr rfl) dX10_measure_18 rm_10_70 mtE24 rfl rfl rfl (Nat.le_of_ble_eq_true rfl) (Or.inl (by decide)) rfl c13 g25 k12 rfl
  have k2X : j1.1 ≠ 0 → r = (j1.1, 0, σ) := by
    intro c27
    rw [if_neg c27] at h
    cases h
    rfl
  clear h
  have h := k2
  refine go_icmp_ne (t := 15) (pc' := 5) dX10_measure_2 rfl rfl (fun c26 => ?_) (fun c26 => ?_)
  · rw [if_pos (show x1 ≠ 3 from c26)] at h
    cases h
    exact (k2J rfl)
  · rw [if_neg (show ¬ (x1 ≠ 3) from c26)] at h
    refine go_aload_n (pc' := 6) dX10_measure_5 rfl rfl (Nat.le_of_ble_eq_true rfl) ?_
    refine go_iload_n (pc' := 7) dX10_measure_6 rfl rfl ?_
    obtain ⟨v3, k4, h⟩ := bd h
    by_cases c5 : v3 = 0
    · rw [if_pos c5] at h
      have k4 := l_C_needMeasure (d + 0) n e σ x2 _ k4
      rw [c5] at k4
      refine go_call (kc := 68) (Mc := mt68) (v := none) (w' := (true, n, e, σ)) (pc' := 10) (st' := []) [pvR 10 0 0, pvI x2] [] (Or.inl rfl) dX10_measure_7 rfl rm_10_193 mtE68 rfl rfl rfl (Nat.le_of_ble_eq_true rfl) (Or.inr ⟨_, _, 0, rfl, Or.inl rfl⟩) k4 rfl ?_
      refine go_aload_n (pc' := 11) dX10_measure_10 rfl rfl (Nat.le_of_ble_eq_true rfl) ?_
      refine go_iload_n (pc' := 12) dX10_measure_11 rfl rfl ?_
      obtain ⟨v6, k7, h⟩ := bd h
      by_cases c8 : v6 = 0
      · rw [if_pos c8] at h
        have k7 := l_C_needMeasure (d + 0) n e σ x3 _ k7
        rw [c8] at k7
        refine go_call (kc := 68) (Mc := mt68) (v := none) (w' := (true, n, e, σ)) (pc' := 15) (st' := []) [pvR 10 0 0, pvI x3] [] (Or.inl rfl) dX10_measure_12 rfl rm_10_193 mtE68 rfl rfl rfl (Nat.le_of_ble_eq_true rfl) (Or.inr ⟨_, _, 0, rfl, Or.inl rfl⟩) k7 rfl ?_
        cases h
        exact (k2J rfl)
      · rw [if_neg c8] at h
        obtain ⟨g9, h⟩ := gd h
        cases h
        have hr : r = (v6, 0, σ) := k2X c8
        subst hr
        have k7 := l_C_needMeasure (d + 0) n e σ x3 _ k7
        simp only [if_neg c8] at k7 ⊢
        exact go_callX (kc := 68) (Mc := mt68) [pvR 10 0 0, pvI x3] [] (Or.inl rfl) dX10_measure_12 rm_10_193 mtE68 rfl rfl rfl (Nat.le_of_ble_eq_true rfl) (Or.inr ⟨_, _, 0, rfl, Or.inl rfl⟩) rfl c8 g9 k7 rfl
    · rw [if_neg c5] at h
      obtain ⟨g10, h⟩ := gd h
      cases h
      have hr : r = (v3, 0, σ) := k2X c5
      subst hr
      have k4 := l_C_needMeasure (d + 0) n e σ x2 _ k4
      simp only [if_neg c5] at k4 ⊢
      exact go_callX (kc := 68) (Mc := mt68) [pvR 10 0 0, pvI x2] [] (Or.inl rfl) dX10_measure_7 rm_10_193 mtE68 rfl rfl rfl (Nat.le_of_ble_eq_true rfl) (Or.inr ⟨_, _, 0, rfl, Or.inl rfl⟩) rfl c5 g10 k4 rfl

set_option maxRecDepth 10000 in
theorem l_L_measure (d : Nat) (n e : Nat) (σ : Hp) (x2 : Int) (x3 : Int) (x4 : Int) (r : Int × Nat × Hp) (h : f_L_measure σ e x2 x3 x4 = some r) : Ev (d + 4) 66 [pvR 10 0 0, pvI x2, pvI x3, pvI x4, pvR 13 1 170] (true, n, e, σ) (0, some (pvI r.1), true, n, r.2.1, r.2.2) := by
  unfold f_L_measure at h
  refine Ev.of mtE66 rfl rfl rfl rfl ?_
  show Go none (Ev (d + 3)) mt66 0 [some (pvR 10 0 0), some (pvI x2), some (pvI x3), some (pvI x4), some (pvR 13 1 170), none] [] (true, n, e, σ) (0, some (pvI r.1), true, n, r.2.1, r.2.2)
  refine go_aload (pc' := 2) dL_measure_0 rfl rfl (Nat.le_of_ble_eq_true rfl) ?_
  refine go_iconst (pc' := 3) dL_measure_2 rfl (r32_c rfl) ?_
  refine go_aload_n (pc' := 4) dL_measure_3 rfl rfl (Nat.le_of_ble_eq_true rfl) ?_
  refine go_iload_n (pc' := 5) dL_measure_4 rfl rfl ?_
  refine go_iload_n (pc' := 6) dL_measure_5 rfl rfl ?_
  refine go_iload_n (pc' := 7) dL_measure_6 rfl rfl ?_
  obtain ⟨v1, k2, h⟩ := bd h
  by_cases c3 : v1.1 = 0
  · rw [if_pos c3] at h
    have k2 := l_C_measure (d + 0) n e σ x2 x3 x4 _ k2
    rw [c3] at k2
    refine go_call (kc := 67) (Mc := mt67) (v := some (pvI v1.2.1)) (w' := (true, n, e, v1.2.2)) (pc' := 10) (st' := [pvI v1.2.1, pvI 0, pvR 13 1 170]) [pvR 10 0 0, pvI x2, pvI x3, pvI x4] [pvI 0, pvR 13 1 170] (Or.inl rfl) dL_measure_7 rfl rm_12_40 mtE67 rfl rfl rfl (Nat.le_of_ble_eq_true rfl) (Or.inr ⟨_, _, 0, rfl, Or.inl rfl⟩) k2 rfl ?_
    refine go_i2l (pc' := 11) dL_measure_10 rfl ?_
    obtain ⟨g4, h⟩ := gd h
    refine go_last (pc' := 12) dL_measure_11 rfl g4 ?_
    refine go_goto (t := 27) dL_measure_12 rfl ?_
    refine go_iconst (pc' := 28) dL_measure_27 rfl (r32_c rfl) ?_
    cases h
    exact go_iret dL_measure_28 rfl rfl
  · rw [if_neg c3] at h
    by_cases c5 : v1.1 = 1
    · rw [if_pos c5] at h
      have k2 := l_C_measure (d + 0) n e σ x2 x3 x4 _ k2
      rw [c5] at k2
      refine go_callH (x := 1) (kc := 67) (Mc := mt67) (h := 15) (i := 5) (ln := 2) (w' := (true, n, (e + 1), v1.2.2)) (pc' := 17) (L' := [some (pvR 10 0 0), some (pvI x2), some (pvI x3), some (pvI x4), some (pvR 13 1 170), none]) [pvR 10 0 0, pvI x2, pvI x3, pvI x4] [pvI 0, pvR 13 1 170] (Or.inl rfl) dL_measure_7 rm_12_40 mtE67 rfl rfl rfl (Nat.le_of_ble_eq_true rfl) (Or.inr ⟨_, _, 0, rfl, Or.inl rfl⟩) (by decide +kernel) (by decide) (by decide) (Or.inl ⟨dL_measure_15, rfl⟩) (Nat.le_of_ble_eq_true rfl) rfl rfl k2 ?_
      refine go_iconst (pc' := 18) dL_measure_17 rfl (r32_c rfl) ?_
      cases h
      exact go_iret dL_measure_18 rfl rfl
    · rw [if_neg c5] at h
      by_cases c6 : v1.1 = 2
      · rw [if_pos c6] at h
        have k2 := l_C_measure (d + 0) n e σ x2 x3 x4 _ k2
        rw [c6] at k2
        refine go_callH (x := 2) (kc := 67) (Mc := mt67) (h := 19) (i := 5) (ln := 2) (w' := (true, n, (e + 1), v1.2.2)) (pc' := 21) (L' := [some (pvR 10 0 0), some (pvI x2), some (pvI x3), some (pvI x4), some (pvR 13 1 170), none]) [pvR 10 0 0, pvI x2, pvI x3, pvI x4] [pvI 0, pvR 13 1 170] (Or.inl rfl) dL_measure_7 rm_12_40 mtE67 rfl rfl rfl (Nat.le_of_ble_eq_true rfl) (Or.inr ⟨_, _, 0, rfl, Or.inl rfl⟩) (by decide +kernel) (by decide) (by decide) (Or.inl ⟨dL_measure_19, rfl⟩) (Nat.le_of_ble_eq_true rfl) rfl rfl k2 ?_
        refine go_iconst (pc' := 22) dL_measure_21 rfl (r32_c rfl) ?_
        cases h
        exact go_iret dL_measure_22 rfl rfl
      · rw [if_neg c6] at h
        by_cases c7 : v1.1 = 3
        · rw [if_pos c7] at h
          have k2 := l_C_measure (d + 0) n e σ x2 x3 x4 _ k2
          rw [c7] at k2
          refine go_callH (x := 3) (kc := 67) (Mc := mt67) (h := 23) (i := 5) (ln := 2) (w' := (true, n, (e + 1), v1.2.2)) (pc' := 25) (L' := [some (pvR 10 0 0), some (pvI x2), some (pvI x3), some (pvI x4), some (pvR 13 1 170), none]) [pvR 10 0 0, pvI x2, pvI x3, pvI x4] [pvI 0, pvR 13 1 170] (Or.inl rfl) dL_measure_7 rm_12_40 mtE67 rfl rfl rfl (Nat.le_of_ble_eq_true rfl) (Or.inr ⟨_, _, 0, rfl, Or.inl rfl⟩) (by decide +kernel) (by decide) (by decide) (Or.inl ⟨dL_measure_23, rfl⟩) (Nat.le_of_ble_eq_true rfl) rfl rfl k2 ?_
          refine go_iconst (pc' := 26) dL_measure_25 rfl (r32_c rfl) ?_
          cases h
          exact go_iret dL_measure_26 rfl rfl
        · rw [if_neg c7] at h
          cases h

set_option maxRecDepth 10000 in
theorem l_MS_leastDepth (d : Nat) (n e : Nat) (σ : Hp) (x1 : Int) (x2 : Int) (r : Int) (h : f_MS_leastDepth σ x1 x2 = some r) : Ev (d + 2) 74 [pvR 4 0 95, pvI x1, pvI x2] (true, n, e, σ) (0, some (pvI r), true, n, e, σ) := by
  unfold f_MS_leastDepth at h
  refine Ev.of mtE74 rfl rfl rfl rfl ?_
  show Go none (Ev (d + 1)) mt74 0 [some (pvR 4 0 95), some (pvI x1), some (pvI x2), none] [] (true, n, e, σ) (0, some (pvI r), true, n, e, σ)
  refine go_aload_n (pc' := 1) dX4_leastDepth_0 rfl rfl (Nat.le_of_ble_eq_true rfl) ?_
  refine go_iload_n (pc' := 2) dX4_leastDepth_1 rfl rfl ?_
  obtain ⟨v1, k2, h⟩ := bd h
  have k2 := l_MS_has (d + 0) n e σ x1 _ k2
  refine go_call (kc := 69) (Mc := mt69) (v := some (pvI v1)) (w' := (true, n, e, σ)) (pc' := 5) (st' := [pvI v1]) [pvR 4 0 95, pvI x1] [] (Or.inl rfl) dX4_leastDepth_2 rfl rm_4_31 mtE69 rfl rfl rfl (Nat.le_of_ble_eq_true rfl) (Or.inr ⟨_, _, 95, rfl, Or.inl rfl⟩) k2 rfl ?_
  obtain ⟨j3, k4, h⟩ := bd h
  have k4J : Go none (Ev (d + 1)) mt74 22 [some (pvR 4 0 95), some (pvI x1), some (pvI x2), none] [pvI j3] (true, n, e, σ) (0, some (pvI r), true, n, e, σ) := by
    refine go_istore_n (L' := [some (pvR 4 0 95), some (pvI x1), some (pvI x2), some (pvI j3)]) (pc' := 23) dX4_leastDepth_22 rfl (Nat.le_of_ble_eq_true rfl) rfl ?_
    refine go_iload_n (pc' := 24) dX4_leastDepth_23 rfl rfl ?_
    obtain ⟨j7, k8, h⟩ := bd h
    have k8J : Go none (Ev (d + 1)) mt74 41 [some (pvR 4 0 95), some (pvI x1), some (pvI x2), some (pvI j3)] [pvI j7] (true, n, e, σ) (0, some (pvI r), true, n, e, σ) := by
      cases h
      exact go_iret dX4_leastDepth_41 rfl rfl
    clear h
    have h := k8
    refine go_if_eq (t := 40) (pc' := 27) dX4_leastDepth_24 rfl rfl (fun c12 => ?_) (fun c12 => ?_)
    · rw [if_pos (show j3 = 0 from c12)] at h
      refine go_iconst (pc' := 41) dX4_leastDepth_40 rfl (r32_c rfl) ?_
      cases h
      exact k8J
    · rw [if_neg (show ¬ (j3 = 0) from c12)] at h
      refine go_aload_n (pc' := 28) dX4_leastDepth_27 rfl rfl (Nat.le_of_ble_eq_true rfl) ?_
      refine go_getR (k' := 12) (L0 := 12) (P' := 100) (pc' := 31) dX4_leastDepth_28 rfl rf_4_24 rfl rfl (by omega) ?_
      refine go_iload_n (pc' := 32) dX4_leastDepth_31 rfl rfl ?_
      refine go_iconst (pc' := 33) dX4_leastDepth_32 rfl (r32_c rfl) ?_
      obtain ⟨g9, h⟩ := gd h
      refine go_imul (pc' := 34) dX4_leastDepth_33 rfl g9 ?_
      refine go_iload_n (pc' := 35) dX4_leastDepth_34 rfl rfl ?_
      obtain ⟨g10, h⟩ := gd h
      refine go_iadd (pc' := 36) dX4_leastDepth_35 rfl g10 ?_
      obtain ⟨g11, h⟩ := gd h
      refine go_iald (pc' := 37) dX4_leastDepth_36 rfl g11 ?_
      refine go_goto (t := 41) dX4_leastDepth_37 rfl ?_
      cases h
      exact k8J
  clear h
  have h := k4
  refine go_if_eq (t := 21) (pc' := 8) dX4_leastDepth_5 rfl rfl (fun c13 => ?_) (fun c13 => ?_)
  · rw [if_pos (show v1 = 0 from c13)] at h
    refine go_iconst (pc' := 22) dX4_leastDepth_21 rfl (r32_c rfl) ?_
    cases h
    exact k4J
  · rw [if_neg (show ¬ (v1 = 0) from c13)] at h
    refine go_iload_n (pc' := 9) dX4_leastDepth_8 rfl rfl ?_
    refine go_if_lt (t := 21) (pc' := 12) dX4_leastDepth_9 rfl rfl (fun c6 => ?_) (fun c6 => ?_)
    · rw [if_pos (show x2 < 0 from c6)] at h
      refine go_iconst (pc' := 22) dX4_leastDepth_21 rfl (r32_c rfl) ?_
      cases h
      exact k4J
    · rw [if_neg (show ¬ (x2 < 0) from c6)] at h
      refine go_iload_n (pc' := 13) dX4_leastDepth_12 rfl rfl ?_
      refine go_iconst (pc' := 14) dX4_leastDepth_13 rfl (r32_c rfl) ?_
      refine go_icmp_ge (t := 21) (pc' := 17) dX4_leastDepth_14 rfl rfl (fun c5 => ?_) (fun c5 => ?_)
      · rw [if_pos (show 3 ≤ x2 from c5)] at h
        refine go_iconst (pc' := 22) dX4_leastDepth_21 rfl (r32_c rfl) ?_
        cases h
        exact k4J
      · rw [if_neg (show ¬ (3 ≤ x2) from c5)] at h
        refine go_iconst (pc' := 18) dX4_leastDepth_17 rfl (r32_c rfl) ?_
        refine go_goto (t := 22) dX4_leastDepth_18 rfl ?_
        cases h
        exact k4J

set_option maxRecDepth 10000 in
theorem l_MS_setLeastDepth (d : Nat) (n e : Nat) (σ : Hp) (x1 : Int) (x2 : Int) (x3 : Int) (r : Int × Hp) (h : f_MS_setLeastDepth σ x1 x2 x3 = some r) : Ev (d + 3) 73 [pvR 4 0 95, pvI x1, pvI x2, pvI x3] (true, n, e, σ) (0, some (pvI r.1), true, n, e, r.2) := by
  unfold f_MS_setLeastDepth at h
  refine Ev.of mtE73 rfl rfl rfl rfl ?_
  show Go none (Ev (d + 2)) mt73 0 [some (pvR 4 0 95), some (pvI x1), some (pvI x2), some (pvI x3), none] [] (true, n, e, σ) (0, some (pvI r.1), true, n, e, r.2)
  refine go_aload_n (pc' := 1) dX4_setLeastDepth_0 rfl rfl (Nat.le_of_ble_eq_true rfl) ?_
  refine go_iload_n (pc' := 2) dX4_setLeastDepth_1 rfl rfl ?_
  refine go_iload_n (pc' := 3) dX4_setLeastDepth_2 rfl rfl ?_
  obtain ⟨v1, k2, h⟩ := bd h
  have k2 := l_MS_leastDepth (d + 0) n e σ x1 x2 _ k2
  refine go_call (kc := 74) (Mc := mt74) (v := some (pvI v1)) (w' := (true, n, e, σ)) (pc' := 6) (st' := [pvI v1]) [pvR 4 0 95, pvI x1, pvI x2] [] (Or.inl rfl) dX4_setLeastDepth_3 rfl rm_4_35 mtE74 rfl rfl rfl (Nat.le_of_ble_eq_true rfl) (Or.inr ⟨_, _, 95, rfl, Or.inl rfl⟩) k2 rfl ?_
  refine go_istore (L' := [some (pvR 4 0 95), some (pvI x1), some (pvI x2), some (pvI x3), some (pvI v1)]) (pc' := 8) dX4_setLeastDepth_6 rfl (Nat.le_of_ble_eq_true rfl) rfl ?_
  refine go_aload_n (pc' := 9) dX4_setLeastDepth_8 rfl rfl (Nat.le_of_ble_eq_true rfl) ?_
  refine go_iload_n (pc' := 10) dX4_setLeastDepth_9 rfl rfl ?_
  obtain ⟨v3, k4, h⟩ := bd h
  have k4 := l_MS_has (d + 1) n e σ x1 _ k4
  refine go_call (kc := 69) (Mc := mt69) (v := some (pvI v3)) (w' := (true, n, e, σ)) (pc' := 13) (st' := [pvI v3]) [pvR 4 0 95, pvI x1] [] (Or.inl rfl) dX4_setLeastDepth_10 rfl rm_4_31 mtE69 rfl rfl rfl (Nat.le_of_ble_eq_true rfl) (Or.inr ⟨_, _, 95, rfl, Or.inl rfl⟩) k4 rfl ?_
  obtain ⟨j5, k6, h⟩ := bd h
  have k6J : Go none (Ev (d + 2)) mt73 36 [some (pvR 4 0 95), some (pvI x1), some (pvI x2), some (pvI x3), some (pvI v1)] [] (true, n, e, j5) (0, some (pvI r.1), true, n, e, r.2) := by
    refine go_iload (pc' := 38) dX4_setLeastDepth_36 rfl rfl ?_
    cases h
    exact go_iret dX4_setLeastDepth_38 rfl rfl
  clear h
  have h := k6
  refine go_if_eq (t := 36) (pc' := 16) dX4_setLeastDepth_13 rfl rfl (fun c12 => ?_) (fun c12 => ?_)
  · rw [if_pos (show v3 = 0 from c12)] at h
    cases h
    exact k6J
  · rw [if_neg (show ¬ (v3 = 0) from c12)] at h
    refine go_iload_n (pc' := 17) dX4_setLeastDepth_16 rfl rfl ?_
    refine go_if_lt (t := 36) (pc' := 20) dX4_setLeastDepth_17 rfl rfl (fun c11 => ?_) (fun c11 => ?_)
    · rw [if_pos (show x2 < 0 from c11)] at h
      cases h
      exact k6J
    · rw [if_neg (show ¬ (x2 < 0) from c11)] at h
      refine go_iload_n (pc' := 21) dX4_setLeastDepth_20 rfl rfl ?_
      refine go_iconst (pc' := 22) dX4_setLeastDepth_21 rfl (r32_c rfl) ?_
      refine go_icmp_ge (t := 36) (pc' := 25) dX4_setLeastDepth_22 rfl rfl (fun c10 => ?_) (fun c10 => ?_)
      · rw [if_pos (show 3 ≤ x2 from c10)] at h
        cases h
        exact k6J
      · rw [if_neg (show ¬ (3 ≤ x2) from c10)] at h
        refine go_aload_n (pc' := 26) dX4_setLeastDepth_25 rfl rfl (Nat.le_of_ble_eq_true rfl) ?_
        refine go_getR (k' := 12) (L0 := 12) (P' := 100) (pc' := 29) dX4_setLeastDepth_26 rfl rf_4_24 rfl rfl (by omega) ?_
        refine go_iload_n (pc' := 30) dX4_setLeastDepth_29 rfl rfl ?_
        refine go_iconst (pc' := 31) dX4_setLeastDepth_30 rfl (r32_c rfl) ?_
        obtain ⟨g7, h⟩ := gd h
        refine go_imul (pc' := 32) dX4_setLeastDepth_31 rfl g7 ?_
        refine go_iload_n (pc' := 33) dX4_setLeastDepth_32 rfl rfl ?_
        obtain ⟨g8, h⟩ := gd h
        refine go_iadd (pc' := 34) dX4_setLeastDepth_33 rfl g8 ?_
        refine go_iload_n (pc' := 35) dX4_setLeastDepth_34 rfl rfl ?_
        obtain ⟨g9, h⟩ := gd h
        refine go_iast (pc' := 36) dX4_setLeastDepth_35 rfl g9 ?_
        cases h
        exact k6J

set_option maxRecDepth 10000 in
theorem l_C_from (d : Nat) (n e : Nat) (σ : Hp) (x1 : Int) (x2 : Int) (x3 : Int) (r : Nat × Int × Hp) (h : f_C_from σ x1 x2 x3 = some r) : Ev (d + 4) 72 [pvR 10 0 0, pvI x1, pvI x2, pvI x3] (true, n, e, σ) (r.1, if r.1 = 0 then some (pvI r.2.1) else none, true, n, e + if r.1 = 0 then 0 else 1, r.2.2) := by
  unfold f_C_from at h
  refine Ev.of mtE72 rfl rfl rfl rfl ?_
  show Go none (Ev (d + 3)) mt72 0 [some (pvR 10 0 0), some (pvI x1), some (pvI x2), some (pvI x3), none] [] (true, n, e, σ) (r.1, if r.1 = 0 then some (pvI r.2.1) else none, true, n, e + if r.1 = 0 then 0 else 1, r.2.2)
  refine go_aload_n (pc' := 1) dX10_from_0 rfl rfl (Nat.le_of_ble_eq_true rfl) ?_
  refine go_iload_n (pc' := 2) dX10_from_1 rfl rfl ?_
  obtain ⟨v1, k2, h⟩ := bd h
  by_cases c3 : v1 = 0
  · rw [if_pos c3] at h
    have k2 := l_C_needMeasure (d + 1) n e σ x1 _ k2
    rw [c3] at k2
    refine go_call (kc := 68) (Mc := mt68) (v := none) (w' := (true, n, e, σ)) (pc' := 5) (st' := []) [pvR 10 0 0, pvI x1] [] (Or.inl rfl) dX10_from_2 rfl rm_10_193 mtE68 rfl rfl rfl (Nat.le_of_ble_eq_true rfl) (Or.inr ⟨_, _, 0, rfl, Or.inl rfl⟩) k2 rfl ?_
    refine go_aload_n (pc' := 6) dX10_from_5 rfl rfl (Nat.le_of_ble_eq_true rfl) ?_
    refine go_iload_n (pc' := 7) dX10_from_6 rfl rfl ?_
    obtain ⟨v4, k5, h⟩ := bd h
    by_cases c6 : v4.1 = 0
    · rw [if_pos c6] at h
      have k5 := l_C_existing (d + 1) n e σ x2 _ k5
      rw [c6] at k5
      refine go_call (kc := 20) (Mc := mt20) (v := some (pvR 0 0 v4.2)) (w' := (true, n, e, σ)) (pc' := 10) (st' := [pvR 0 0 v4.2]) [pvR 10 0 0, pvI x2] [] (Or.inl rfl) dX10_from_7 rfl rm_10_62 mtE20 rfl rfl rfl (Nat.le_of_ble_eq_true rfl) (Or.inr ⟨_, _, 0, rfl, Or.inl rfl⟩) k5 rfl ?_
      refine go_pop (pc' := 11) dX10_from_10 rfl (Nat.ne_of_beq_eq_false rfl) ?_
      refine go_iload_n (pc' := 12) dX10_from_11 rfl rfl ?_
      refine go_iconst (pc' := 13) dX10_from_12 rfl (r32_c rfl) ?_
      refine go_bipush (pc' := 15) dX10_from_13 rfl (r32_c rfl) (by decide) ?_
      obtain ⟨v7, k8, h⟩ := bd h
      by_cases c9 : v7 = 0
      · rw [if_pos c9] at h
        have k8 := l_C_needRange (d + 2) n e σ x3 0 11 _ k8
        rw [c9] at k8
        refine go_call (kc := 24) (Mc := mt24) (v := none) (w' := (true, n, e, σ)) (pc' := 18) (st' := []) [pvI x3, pvI 0, pvI 11] [] (Or.inr (Or.inl rfl)) dX10_from_15 rfl rm_10_70 mtE24 rfl rfl rfl (Nat.le_of_ble_eq_true rfl) (Or.inl (by decide)) k8 rfl ?_
        refine go_aload_n (pc' := 19) dX10_from_18 rfl rfl (Nat.le_of_ble_eq_true rfl) ?_
        refine go_getR (k' := 4) (L0 := 0) (P' := 95) (pc' := 22) dX10_from_19 rfl rf_10_21 rfl rfl (by omega) ?_
        refine go_iload_n (pc' := 23) dX10_from_22 rfl rfl ?_
        refine go_iload_n (pc' := 24) dX10_from_23 rfl rfl ?_
        refine go_iload_n (pc' := 25) dX10_from_24 rfl rfl ?_
        obtain ⟨v10, k11, h⟩ := bd h
        have k11 := l_MS_setLeastDepth (d + 0) n e σ x1 x2 x3 _ k11
        refine go_call (kc := 73) (Mc := mt73) (v := some (pvI v10.1)) (w' := (true, n, e, v10.2)) (pc' := 28) (st' := [pvI v10.1]) [pvR 4 0 95, pvI x1, pvI x2, pvI x3] [] (Or.inl rfl) dX10_from_25 rfl rm_10_202 mtE73 rfl rfl rfl (Nat.le_of_ble_eq_true rfl) (Or.inr ⟨_, _, 95, rfl, Or.inl rfl⟩) k11 rfl ?_
        refine go_istore (L' := [some (pvR 10 0 0), some (pvI x1), some (pvI x2), some (pvI x3), some (pvI v10.1)]) (pc' := 30) dX10_from_28 rfl (Nat.le_of_ble_eq_true rfl) rfl ?_
        refine go_aload_n (pc' := 31) dX10_from_30 rfl rfl (Nat.le_of_ble_eq_true rfl) ?_
        refine go_getR (k' := 3) (L0 := 0) (P' := 108) (pc' := 34) dX10_from_31 rfl rf_10_35 rfl rfl (by omega) ?_
        obtain ⟨v12, k13, h⟩ := bd h
        have k13 := l_K_dropAll (d + 2) n e v10.2 _ k13
        refine go_call (kc := 13) (Mc := mt13) (v := none) (w' := (true, n, e, v12)) (pc' := 37) (st' := []) [pvR 3 0 108] [] (Or.inl rfl) dX10_from_34 rfl rm_10_105 mtE13 rfl rfl rfl (Nat.le_of_ble_eq_true rfl) (Or.inr ⟨_, _, 108, rfl, Or.inl rfl⟩) k13 rfl ?_
        refine go_iload (pc' := 39) dX10_from_37 rfl rfl ?_
        cases h
        exact go_iret dX10_from_39 rfl rfl
      · rw [if_neg c9] at h
        obtain ⟨g14, h⟩ := gd h
        cases h
        have k8 := l_C_needRange (d + 2) n e σ x3 0 11 _ k8
        simp only [if_neg c9] at k8 ⊢
        exact go_callX (kc := 24) (Mc := mt24) [pvI x3, pvI 0, pvI 11] [] (Or.inr rfl) dX10_from_15 rm_10_70 mtE24 rfl rfl rfl (Nat.le_of_ble_eq_true rfl) (Or.inl (by decide)) rfl c9 g14 k8 rfl
    · rw [if_neg c6] at h
      obtain ⟨g15, h⟩ := gd h
      cases h
      have k5 := l_C_existing (d + 1) n e σ x2 _ k5
      simp only [if_neg c6] at k5 ⊢
      exact go_callX (kc := 20) (Mc := mt20) [pvR 10 0 0, pvI x2] [] (Or.inl rfl) dX10_from_7 rm_10_62 mtE20 rfl rfl rfl (Nat.le_of_ble_eq_true rfl) (Or.inr ⟨_, _, 0, rfl, Or.inl rfl⟩) rfl c6 g15 k5 rfl
  · rw [if_neg c3] at h
    obtain ⟨g16, h⟩ := gd h
    cases h
    have k2 := l_C_needMeasure (d + 1) n e σ x1 _ k2
    simp only [if_neg c3] at k2 ⊢
    exact go_callX (kc := 68) (Mc := mt68) [pvR 10 0 0, pvI x1] [] (Or.inl rfl) dX10_from_2 rm_10_193 mtE68 rfl rfl rfl (Nat.le_of_ble_eq_true rfl) (Or.inr ⟨_, _, 0, rfl, Or.inl rfl⟩) rfl c3 g16 k2 rfl

set_option maxRecDepth 10000 in
theorem l_L_from (d : Nat) (n e : Nat) (σ : Hp) (x2 : Int) (x3 : Int) (x4 : Int) (r : Int × Nat × Hp) (h : f_L_from σ e x2 x3 x4 = some r) : Ev (d + 5) 71 [pvR 10 0 0, pvI x2, pvI x3, pvI x4, pvR 13 1 170] (true, n, e, σ) (0, some (pvI r.1), true, n, r.2.1, r.2.2) := by
  unfold f_L_from at h
  refine Ev.of mtE71 rfl rfl rfl rfl ?_
  show Go none (Ev (d + 4)) mt71 0 [some (pvR 10 0 0), some (pvI x2), some (pvI x3), some (pvI x4), some (pvR 13 1 170), none] [] (true, n, e, σ) (0, some (pvI r.1), true, n, r.2.1, r.2.2)
  refine go_aload (pc' := 2) dL_from_0 rfl rfl (Nat.le_of_ble_eq_true rfl) ?_
  refine go_iconst (pc' := 3) dL_from_2 rfl (r32_c rfl) ?_
  refine go_aload_n (pc' := 4) dL_from_3 rfl rfl (Nat.le_of_ble_eq_true rfl) ?_
  refine go_iload_n (pc' := 5) dL_from_4 rfl rfl ?_
  refine go_iload_n (pc' := 6) dL_from_5 rfl rfl ?_
  refine go_iload_n (pc' := 7) dL_from_6 rfl rfl ?_
  obtain ⟨v1, k2, h⟩ := bd h
  by_cases c3 : v1.1 = 0
  · rw [if_pos c3] at h
    have k2 := l_C_from (d + 0) n e σ x2 x3 x4 _ k2
    rw [c3] at k2
    refine go_call (kc := 72) (Mc := mt72) (v := some (pvI v1.2.1)) (w' := (true, n, e, v1.2.2)) (pc' := 10) (st' := [pvI v1.2.1, pvI 0, pvR 13 1 170]) [pvR 10 0 0, pvI x2, pvI x3, pvI x4] [pvI 0, pvR 13 1 170] (Or.inl rfl) dL_from_7 rfl rm_12_43 mtE72 rfl rfl rfl (Nat.le_of_ble_eq_true rfl) (Or.inr ⟨_, _, 0, rfl, Or.inl rfl⟩) k2 rfl ?_
    refine go_i2l (pc' := 11) dL_from_10 rfl ?_
    obtain ⟨g4, h⟩ := gd h
    refine go_last (pc' := 12) dL_from_11 rfl g4 ?_
    refine go_goto (t := 23) dL_from_12 rfl ?_
    refine go_iconst (pc' := 24) dL_from_23 rfl (r32_c rfl) ?_
    cases h
    exact go_iret dL_from_24 rfl rfl
  · rw [if_neg c3] at h
    by_cases c5 : v1.1 = 1
    · rw [if_pos c5] at h
      have k2 := l_C_from (d + 0) n e σ x2 x3 x4 _ k2
      rw [c5] at k2
      refine go_callH (x := 1) (kc := 72) (Mc := mt72) (h := 15) (i := 5) (ln := 2) (w' := (true, n, (e + 1), v1.2.2)) (pc' := 17) (L' := [some (pvR 10 0 0), some (pvI x2), some (pvI x3), some (pvI x4), some (pvR 13 1 170), none]) [pvR 10 0 0, pvI x2, pvI x3, pvI x4] [pvI 0, pvR 13 1 170] (Or.inl rfl) dL_from_7 rm_12_43 mtE72 rfl rfl rfl (Nat.le_of_ble_eq_true rfl) (Or.inr ⟨_, _, 0, rfl, Or.inl rfl⟩) (by decide +kernel) (by decide) (by decide) (Or.inl ⟨dL_from_15, rfl⟩) (Nat.le_of_ble_eq_true rfl) rfl rfl k2 ?_
      refine go_iconst (pc' := 18) dL_from_17 rfl (r32_c rfl) ?_
      cases h
      exact go_iret dL_from_18 rfl rfl
    · rw [if_neg c5] at h
      by_cases c6 : v1.1 = 2
      · rw [if_pos c6] at h
        have k2 := l_C_from (d + 0) n e σ x2 x3 x4 _ k2
        rw [c6] at k2
        refine go_callH (x := 2) (kc := 72) (Mc := mt72) (h := 19) (i := 5) (ln := 2) (w' := (true, n, (e + 1), v1.2.2)) (pc' := 21) (L' := [some (pvR 10 0 0), some (pvI x2), some (pvI x3), some (pvI x4), some (pvR 13 1 170), none]) [pvR 10 0 0, pvI x2, pvI x3, pvI x4] [pvI 0, pvR 13 1 170] (Or.inl rfl) dL_from_7 rm_12_43 mtE72 rfl rfl rfl (Nat.le_of_ble_eq_true rfl) (Or.inr ⟨_, _, 0, rfl, Or.inl rfl⟩) (by decide +kernel) (by decide) (by decide) (Or.inl ⟨dL_from_19, rfl⟩) (Nat.le_of_ble_eq_true rfl) rfl rfl k2 ?_
        refine go_iconst (pc' := 22) dL_from_21 rfl (r32_c rfl) ?_
        cases h
        exact go_iret dL_from_22 rfl rfl
      · rw [if_neg c6] at h
        cases h

set_option maxRecDepth 10000 in
theorem l_C_existingCell (d : Nat) (n e : Nat) (σ : Hp) (x1 : Int) (x2 : Int) (x3 : Int) (x4 : Int) (r : Nat × Int) (h : f_C_existingCell σ x1 x2 x3 x4 = some r) : Ev (d + 3) 77 [pvR 10 0 0, pvI x1, pvI x2, pvI x3, pvI x4] (true, n, e, σ) (r.1, if r.1 = 0 then some (pvI r.2) else none, true, n, e + if r.1 = 0 then 0 else 1, σ) := by
  unfold f_C_existingCell at h
  refine Ev.of mtE77 rfl rfl rfl rfl ?_
  show Go none (Ev (d + 2)) mt77 0 [some (pvR 10 0 0), some (pvI x1), some (pvI x2), some (pvI x3), some (pvI x4)] [] (true, n, e, σ) (r.1, if r.1 = 0 then some (pvI r.2) else none, true, n, e + if r.1 = 0 then 0 else 1, σ)
  refine go_aload_n (pc' := 1) dX10_existingCell_0 rfl rfl (Nat.le_of_ble_eq_true rfl) ?_
  refine go_getR (k' := 7) (L0 := 0) (P' := 1) (pc' := 4) dX10_existingCell_1 rfl rf_10_12 rfl rfl (by omega) ?_
  refine go_getR (k' := 0) (L0 := 0) (P' := 2) (pc' := 7) dX10_existingCell_4 rfl rf_10_127 rfl rfl (by omega) ?_
  refine go_iload_n (pc' := 8) dX10_existingCell_7 rfl rfl ?_
  obtain ⟨v1, k2, h⟩ := bd h
  by_cases c3 : v1 = 0
  · rw [if_pos c3] at h
    have k2 := l_C_needMember (d + 0) n e σ 2 x1 _ k2
    rw [c3] at k2
    refine go_call (kc := 22) (Mc := mt22) (v := none) (w' := (true, n, e, σ)) (pc' := 11) (st' := []) [pvR 0 0 2, pvI x1] [] (Or.inr (Or.inl rfl)) dX10_existingCell_8 rfl rm_10_66 mtE22 rfl rfl rfl (Nat.le_of_ble_eq_true rfl) (Or.inl (by decide)) k2 rfl ?_
    refine go_aload_n (pc' := 12) dX10_existingCell_11 rfl rfl (Nat.le_of_ble_eq_true rfl) ?_
    refine go_getR (k' := 7) (L0 := 0) (P' := 1) (pc' := 15) dX10_existingCell_12 rfl rf_10_12 rfl rfl (by omega) ?_
    refine go_getR (k' := 0) (L0 := 0) (P' := 32) (pc' := 18) dX10_existingCell_15 rfl rf_10_340 rfl rfl (by omega) ?_
    refine go_iload_n (pc' := 19) dX10_existingCell_18 rfl rfl ?_
    obtain ⟨v4, k5, h⟩ := bd h
    by_cases c6 : v4 = 0
    · rw [if_pos c6] at h
      have k5 := l_C_needMember (d + 0) n e σ 32 x2 _ k5
      rw [c6] at k5
      refine go_call (kc := 22) (Mc := mt22) (v := none) (w' := (true, n, e, σ)) (pc' := 22) (st' := []) [pvR 0 0 32, pvI x2] [] (Or.inr (Or.inl rfl)) dX10_existingCell_19 rfl rm_10_66 mtE22 rfl rfl rfl (Nat.le_of_ble_eq_true rfl) (Or.inl (by decide)) k5 rfl ?_
      refine go_aload_n (pc' := 23) dX10_existingCell_22 rfl rfl (Nat.le_of_ble_eq_true rfl) ?_
      refine go_getR (k' := 7) (L0 := 0) (P' := 1) (pc' := 26) dX10_existingCell_23 rfl rf_10_12 rfl rfl (by omega) ?_
      refine go_getR (k' := 0) (L0 := 0) (P' := 62) (pc' := 29) dX10_existingCell_26 rfl rf_10_343 rfl rfl (by omega) ?_
      refine go_iload_n (pc' := 30) dX10_existingCell_29 rfl rfl ?_
      obtain ⟨v7, k8, h⟩ := bd h
      by_cases c9 : v7 = 0
      · rw [if_pos c9] at h
        have k8 := l_C_needMember (d + 0) n e σ 62 x3 _ k8
        rw [c9] at k8
        refine go_call (kc := 22) (Mc := mt22) (v := none) (w' := (true, n, e, σ)) (pc' := 33) (st' := []) [pvR 0 0 62, pvI x3] [] (Or.inr (Or.inl rfl)) dX10_existingCell_30 rfl rm_10_66 mtE22 rfl rfl rfl (Nat.le_of_ble_eq_true rfl) (Or.inl (by decide)) k8 rfl ?_
        refine go_aload_n (pc' := 34) dX10_existingCell_33 rfl rfl (Nat.le_of_ble_eq_true rfl) ?_
        refine go_iload (pc' := 36) dX10_existingCell_34 rfl rfl ?_
        obtain ⟨v10, k11, h⟩ := bd h
        by_cases c12 : v10 = 0
        · rw [if_pos c12] at h
          have k11 := l_C_needMeasure (d + 0) n e σ x4 _ k11
          rw [c12] at k11
          refine go_call (kc := 68) (Mc := mt68) (v := none) (w' := (true, n, e, σ)) (pc' := 39) (st' := []) [pvR 10 0 0, pvI x4] [] (Or.inl rfl) dX10_existingCell_36 rfl rm_10_193 mtE68 rfl rfl rfl (Nat.le_of_ble_eq_true rfl) (Or.inr ⟨_, _, 0, rfl, Or.inl rfl⟩) k11 rfl ?_
          refine go_iload_n (pc' := 40) dX10_existingCell_39 rfl rfl ?_
          refine go_sipush (pc' := 43) dX10_existingCell_40 rfl (r32_c rfl) (by decide) ?_
          obtain ⟨g13, h⟩ := gd h
          refine go_imul (pc' := 44) dX10_existingCell_43 rfl g13 ?_
          refine go_iload_n (pc' := 45) dX10_existingCell_44 rfl rfl ?_
          refine go_bipush (pc' := 47) dX10_existingCell_45 rfl (r32_c rfl) (by decide) ?_
          obtain ⟨g14, h⟩ := gd h
          refine go_imul (pc' := 48) dX10_existingCell_47 rfl g14 ?_
          obtain ⟨g15, h⟩ := gd h
          refine go_iadd (pc' := 49) dX10_existingCell_48 rfl g15 ?_
          refine go_iload_n (pc' := 50) dX10_existingCell_49 rfl rfl ?_
          obtain ⟨g16, h⟩ := gd h
          refine go_iadd (pc' := 51) dX10_existingCell_50 rfl g16 ?_
          cases h
          exact go_iret dX10_existingCell_51 rfl rfl
        · rw [if_neg c12] at h
          obtain ⟨g17, h⟩ := gd h
          cases h
          have k11 := l_C_needMeasure (d + 0) n e σ x4 _ k11
          simp only [if_neg c12] at k11 ⊢
          exact go_callX (kc := 68) (Mc := mt68) [pvR 10 0 0, pvI x4] [] (Or.inl rfl) dX10_existingCell_36 rm_10_193 mtE68 rfl rfl rfl (Nat.le_of_ble_eq_true rfl) (Or.inr ⟨_, _, 0, rfl, Or.inl rfl⟩) rfl c12 g17 k11 rfl
      · rw [if_neg c9] at h
        obtain ⟨g18, h⟩ := gd h
        cases h
        have k8 := l_C_needMember (d + 0) n e σ 62 x3 _ k8
        simp only [if_neg c9] at k8 ⊢
        exact go_callX (kc := 22) (Mc := mt22) [pvR 0 0 62, pvI x3] [] (Or.inr rfl) dX10_existingCell_30 rm_10_66 mtE22 rfl rfl rfl (Nat.le_of_ble_eq_true rfl) (Or.inl (by decide)) rfl c9 g18 k8 rfl
    · rw [if_neg c6] at h
      obtain ⟨g19, h⟩ := gd h
      cases h
      have k5 := l_C_needMember (d + 0) n e σ 32 x2 _ k5
      simp only [if_neg c6] at k5 ⊢
      exact go_callX (kc := 22) (Mc := mt22) [pvR 0 0 32, pvI x2] [] (Or.inr rfl) dX10_existingCell_19 rm_10_66 mtE22 rfl rfl rfl (Nat.le_of_ble_eq_true rfl) (Or.inl (by decide)) rfl c6 g19 k5 rfl
  · rw [if_neg c3] at h
    obtain ⟨g20, h⟩ := gd h
    cases h
    have k2 := l_C_needMember (d + 0) n e σ 2 x1 _ k2
    simp only [if_neg c3] at k2 ⊢
    exact go_callX (kc := 22) (Mc := mt22) [pvR 0 0 2, pvI x1] [] (Or.inr rfl) dX10_existingCell_8 rm_10_66 mtE22 rfl rfl rfl (Nat.le_of_ble_eq_true rfl) (Or.inl (by decide)) rfl c3 g20 k2 rfl

set_option maxRecDepth 10000 in
theorem l_C_memberOf (d : Nat) (n e : Nat) (σ : Hp) (x1 : Int) (x2 : Int) (r : Int) (h : f_C_memberOf σ x1 x2 = some r) : Ev (d + 1) 79 [pvI x1, pvI x2] (true, n, e, σ) (0, some (pvI r), true, n, e, σ) := by
  unfold f_C_memberOf at h
  refine Ev.of mtE79 rfl rfl rfl rfl ?_
  show Go none (Ev (d + 0)) mt79 0 [some (pvI x1), some (pvI x2)] [] (true, n, e, σ) (0, some (pvI r), true, n, e, σ)
  refine go_iload_n (pc' := 1) dX10_memberOf_0 rfl rfl ?_
  refine go_if_ne (t := 10) (pc' := 4) dX10_memberOf_1 rfl rfl (fun c8 => ?_) (fun c8 => ?_)
  · rw [if_pos (show x2 ≠ 0 from c8)] at h
    refine go_iload_n (pc' := 11) dX10_memberOf_10 rfl rfl ?_
    refine go_iconst (pc' := 12) dX10_memberOf_11 rfl (r32_c rfl) ?_
    obtain ⟨j1, k2, h⟩ := bd h
    have k2J : Go none (Ev (d + 0)) mt79 29 [some (pvI x1), some (pvI x2)] [pvI j1] (true, n, e, σ) (0, some (pvI r), true, n, e, σ) := by
      cases h
      exact go_iret dX10_memberOf_29 rfl rfl
    clear h
    have h := k2
    refine go_icmp_ne (t := 25) (pc' := 15) dX10_memberOf_12 rfl rfl (fun c6 => ?_) (fun c6 => ?_)
    · rw [if_pos (show x2 ≠ 1 from c6)] at h
      refine go_iload_n (pc' := 26) dX10_memberOf_25 rfl rfl ?_
      refine go_bipush (pc' := 28) dX10_memberOf_26 rfl (r32_c rfl) (by decide) ?_
      obtain ⟨g3, h⟩ := gd h
      refine go_irem (pc' := 29) dX10_memberOf_28 rfl g3 ?_
      cases h
      exact k2J
    · rw [if_neg (show ¬ (x2 ≠ 1) from c6)] at h
      refine go_iload_n (pc' := 16) dX10_memberOf_15 rfl rfl ?_
      refine go_bipush (pc' := 18) dX10_memberOf_16 rfl (r32_c rfl) (by decide) ?_
      obtain ⟨g4, h⟩ := gd h
      refine go_idiv (pc' := 19) dX10_memberOf_18 rfl g4 ?_
      refine go_bipush (pc' := 21) dX10_memberOf_19 rfl (r32_c rfl) (by decide) ?_
      obtain ⟨g5, h⟩ := gd h
      refine go_irem (pc' := 22) dX10_memberOf_21 rfl g5 ?_
      refine go_goto (t := 29) dX10_memberOf_22 rfl ?_
      cases h
      exact k2J
  · rw [if_neg (show ¬ (x2 ≠ 0) from c8)] at h
    refine go_iload_n (pc' := 5) dX10_memberOf_4 rfl rfl ?_
    refine go_sipush (pc' := 8) dX10_memberOf_5 rfl (r32_c rfl) (by decide) ?_
    obtain ⟨g7, h⟩ := gd h
    refine go_idiv (pc' := 9) dX10_memberOf_8 rfl g7 ?_
    cases h
    exact go_iret dX10_memberOf_9 rfl rfl

set_option maxRecDepth 10000 in
theorem l_S_isPlain (d : Nat) (n e : Nat) (σ : Hp) (x1 : Int) (r : Int) (h : f_S_isPlain σ x1 = some r) : Ev (d + 3) 78 [pvR 7 0 1, pvI x1] (true, n, e, σ) (0, some (pvI r), true, n, e, σ) := by
  unfold f_S_isPlain at h
  refine Ev.of mtE78 rfl rfl rfl rfl ?_
  show Go none (Ev (d + 2)) mt78 0 [some (pvR 7 0 1), some (pvI x1)] [] (true, n, e, σ) (0, some (pvI r), true, n, e, σ)
  refine go_aload_n (pc' := 1) dX7_isPlain_0 rfl rfl (Nat.le_of_ble_eq_true rfl) ?_
  refine go_getR (k' := 0) (L0 := 0) (P' := 2) (pc' := 4) dX7_isPlain_1 rfl rf_7_12 rfl rfl (by omega) ?_
  refine go_iload_n (pc' := 5) dX7_isPlain_4 rfl rfl ?_
  refine go_iconst (pc' := 6) dX7_isPlain_5 rfl (r32_c rfl) ?_
  obtain ⟨v1, k2, h⟩ := bd h
  have k2 := l_C_memberOf (d + 1) n e σ x1 0 _ k2
  refine go_call (kc := 79) (Mc := mt79) (v := some (pvI v1)) (w' := (true, n, e, σ)) (pc' := 9) (st' := [pvI v1, pvR 0 0 2]) [pvI x1, pvI 0] [pvR 0 0 2] (Or.inr (Or.inr (Or.inr (Or.inl rfl)))) dX7_isPlain_6 rfl rm_7_45 mtE79 rfl rfl rfl (Nat.le_of_ble_eq_true rfl) (Or.inl (by decide)) k2 rfl ?_
  obtain ⟨v3, k4, h⟩ := bd h
  have k4 := l_D_isPlain (d + 0) n e σ 2 v1 _ k4
  refine go_call (kc := 25) (Mc := mt25) (v := some (pvI v3)) (w' := (true, n, e, σ)) (pc' := 12) (st' := [pvI v3]) [pvR 0 0 2, pvI v1] [] (Or.inl rfl) dX7_isPlain_9 rfl rm_7_49 mtE25 rfl rfl rfl (Nat.le_of_ble_eq_true rfl) (Or.inr ⟨_, _, 2, rfl, Or.inl rfl⟩) k4 rfl ?_
  obtain ⟨j5, k6, h⟩ := bd h
  have k6J : Go none (Ev (d + 2)) mt78 50 [some (pvR 7 0 1), some (pvI x1)] [pvI j5] (true, n, e, σ) (0, some (pvI r), true, n, e, σ) := by
    obtain ⟨g17, h⟩ := gd h
    cases h
    exact go_zret dX7_isPlain_50 rfl g17 rfl
  clear h
  have h := k6
  refine go_if_eq (t := 49) (pc' := 15) dX7_isPlain_12 rfl rfl (fun c18 => ?_) (fun c18 => ?_)
  · rw [if_pos (show v3 = 0 from c18)] at h
    refine go_iconst (pc' := 50) dX7_isPlain_49 rfl (r32_c rfl) ?_
    cases h
    exact k6J
  · rw [if_neg (show ¬ (v3 = 0) from c18)] at h
    refine go_aload_n (pc' := 16) dX7_isPlain_15 rfl rfl (Nat.le_of_ble_eq_true rfl) ?_
    refine go_getR (k' := 0) (L0 := 0) (P' := 32) (pc' := 19) dX7_isPlain_16 rfl rf_7_18 rfl rfl (by omega) ?_
    refine go_iload_n (pc' := 20) dX7_isPlain_19 rfl rfl ?_
    refine go_iconst (pc' := 21) dX7_isPlain_20 rfl (r32_c rfl) ?_
    obtain ⟨v7, k8, h⟩ := bd h
    have k8 := l_C_memberOf (d + 1) n e σ x1 1 _ k8
    refine go_call (kc := 79) (Mc := mt79) (v := some (pvI v7)) (w' := (true, n, e, σ)) (pc' := 24) (st' := [pvI v7, pvR 0 0 32]) [pvI x1, pvI 1] [pvR 0 0 32] (Or.inr (Or.inr (Or.inr (Or.inl rfl)))) dX7_isPlain_21 rfl rm_7_45 mtE79 rfl rfl rfl (Nat.le_of_ble_eq_true rfl) (Or.inl (by decide)) k8 rfl ?_
    obtain ⟨v9, k10, h⟩ := bd h
    have k10 := l_D_isPlain (d + 0) n e σ 32 v7 _ k10
    refine go_call (kc := 25) (Mc := mt25) (v := some (pvI v9)) (w' := (true, n, e, σ)) (pc' := 27) (st' := [pvI v9]) [pvR 0 0 32, pvI v7] [] (Or.inl rfl) dX7_isPlain_24 rfl rm_7_49 mtE25 rfl rfl rfl (Nat.le_of_ble_eq_true rfl) (Or.inr ⟨_, _, 32, rfl, Or.inl rfl⟩) k10 rfl ?_
    refine go_if_eq (t := 49) (pc' := 30) dX7_isPlain_27 rfl rfl (fun c16 => ?_) (fun c16 => ?_)
    · rw [if_pos (show v9 = 0 from c16)] at h
      refine go_iconst (pc' := 50) dX7_isPlain_49 rfl (r32_c rfl) ?_
      cases h
      exact k6J
    · rw [if_neg (show ¬ (v9 = 0) from c16)] at h
      refine go_aload_n (pc' := 31) dX7_isPlain_30 rfl rfl (Nat.le_of_ble_eq_true rfl) ?_
      refine go_getR (k' := 0) (L0 := 0) (P' := 62) (pc' := 34) dX7_isPlain_31 rfl rf_7_21 rfl rfl (by omega) ?_
      refine go_iload_n (pc' := 35) dX7_isPlain_34 rfl rfl ?_
      refine go_iconst (pc' := 36) dX7_isPlain_35 rfl (r32_c rfl) ?_
      obtain ⟨v11, k12, h⟩ := bd h
      have k12 := l_C_memberOf (d + 1) n e σ x1 2 _ k12
      refine go_call (kc := 79) (Mc := mt79) (v := some (pvI v11)) (w' := (true, n, e, σ)) (pc' := 39) (st' := [pvI v11, pvR 0 0 62]) [pvI x1, pvI 2] [pvR 0 0 62] (Or.inr (Or.inr (Or.inr (Or.inl rfl)))) dX7_isPlain_36 rfl rm_7_45 mtE79 rfl rfl rfl (Nat.le_of_ble_eq_true rfl) (Or.inl (by decide)) k12 rfl ?_
      obtain ⟨v13, k14, h⟩ := bd h
      have k14 := l_D_isPlain (d + 0) n e σ 62 v11 _ k14
      refine go_call (kc := 25) (Mc := mt25) (v := some (pvI v13)) (w' := (true, n, e, σ)) (pc' := 42) (st' := [pvI v13]) [pvR 0 0 62, pvI v11] [] (Or.inl rfl) dX7_isPlain_39 rfl rm_7_49 mtE25 rfl rfl rfl (Nat.le_of_ble_eq_true rfl) (Or.inr ⟨_, _, 62, rfl, Or.inl rfl⟩) k14 rfl ?_
      refine go_if_eq (t := 49) (pc' := 45) dX7_isPlain_42 rfl rfl (fun c15 => ?_) (fun c15 => ?_)
      · rw [if_pos (show v13 = 0 from c15)] at h
        refine go_iconst (pc' := 50) dX7_isPlain_49 rfl (r32_c rfl) ?_
        cases h
        exact k6J
      · rw [if_neg (show ¬ (v13 = 0) from c15)] at h
        refine go_iconst (pc' := 46) dX7_isPlain_45 rfl (r32_c rfl) ?_
        refine go_goto (t := 50) dX7_isPlain_46 rfl ?_
        cases h
        exact k6J

set_option maxRecDepth 10000 in
theorem l_MS_kindOf (d : Nat) (n e : Nat) (σ : Hp) (x1 : Int) (r : Int) (h : f_MS_kindOf σ x1 = some r) : Ev (d + 2) 80 [pvR 4 0 95, pvI x1] (true, n, e, σ) (0, some (pvI r), true, n, e, σ) := by
  unfold f_MS_kindOf at h
  refine Ev.of mtE80 rfl rfl rfl rfl ?_
  show Go none (Ev (d + 1)) mt80 0 [some (pvR 4 0 95), some (pvI x1)] [] (true, n, e, σ) (0, some (pvI r), true, n, e, σ)
  refine go_aload_n (pc' := 1) dX4_kindOf_0 rfl rfl (Nat.le_of_ble_eq_true rfl) ?_
  refine go_iload_n (pc' := 2) dX4_kindOf_1 rfl rfl ?_
  obtain ⟨v1, k2, h⟩ := bd h
  have k2 := l_MS_has (d + 0) n e σ x1 _ k2
  refine go_call (kc := 69) (Mc := mt69) (v := some (pvI v1)) (w' := (true, n, e, σ)) (pc' := 5) (st' := [pvI v1]) [pvR 4 0 95, pvI x1] [] (Or.inl rfl) dX4_kindOf_2 rfl rm_4_31 mtE69 rfl rfl rfl (Nat.le_of_ble_eq_true rfl) (Or.inr ⟨_, _, 95, rfl, Or.inl rfl⟩) k2 rfl ?_
  obtain ⟨j3, k4, h⟩ := bd h
  have k4J : Go none (Ev (d + 1)) mt80 18 [some (pvR 4 0 95), some (pvI x1)] [pvI j3] (true, n, e, σ) (0, some (pvI r), true, n, e, σ) := by
    cases h
    exact go_iret dX4_kindOf_18 rfl rfl
  clear h
  have h := k4
  refine go_if_eq (t := 17) (pc' := 8) dX4_kindOf_5 rfl rfl (fun c6 => ?_) (fun c6 => ?_)
  · rw [if_pos (show v1 = 0 from c6)] at h
    refine go_iconst (pc' := 18) dX4_kindOf_17 rfl (r32_c rfl) ?_
    cases h
    exact k4J
  · rw [if_neg (show ¬ (v1 = 0) from c6)] at h
    refine go_aload_n (pc' := 9) dX4_kindOf_8 rfl rfl (Nat.le_of_ble_eq_true rfl) ?_
    refine go_getR (k' := 12) (L0 := 4) (P' := 96) (pc' := 12) dX4_kindOf_9 rfl rf_4_9 rfl rfl (by omega) ?_
    refine go_iload_n (pc' := 13) dX4_kindOf_12 rfl rfl ?_
    obtain ⟨g5, h⟩ := gd h
    refine go_iald (pc' := 14) dX4_kindOf_13 rfl g5 ?_
    refine go_goto (t := 18) dX4_kindOf_14 rfl ?_
    cases h
    exact k4J

set_option maxRecDepth 10000 in
theorem l_FR_find_2 (d : Nat) (n : Nat) (e : Nat) (σ : Hp) (x1 : Int) (x2 : Int) : ∀ (F : Nat) (y1 : Int) (r : Int), f_FR_find_2 σ x1 x2 F y1 = some r → Go none (Ev (d + 0)) mt81 2 [some (pvR 1 0 101), some (pvI x1), some (pvI x2), some (pvI y1)] [] (true, n, e, σ) (0, some (pvI r), true, n, e, σ) := by
  intro F
  induction F with
  | zero =>
    intro _ _ h
    rw [f_FR_find_2] at h
    cases h
  | succ F ih =>
    intro y1 r h
    rw [f_FR_find_2] at h
    refine go_iload_n (pc' := 3) dX1_find_2 rfl rfl ?_
    refine go_aload_n (pc' := 4) dX1_find_3 rfl rfl (Nat.le_of_ble_eq_true rfl) ?_
    refine go_getI (pc' := 7) dX1_find_4 rfl rf_1_30 rfl ?_
    refine go_icmp_ge (t := 38) (pc' := 10) dX1_find_7 rfl rfl (fun c8 => ?_) (fun c8 => ?_)
    · rw [if_pos (show (σ 101 0) ≤ y1 from c8)] at h
      refine go_iconst (pc' := 39) dX1_find_38 rfl (r32_c rfl) ?_
      cases h
      exact go_iret dX1_find_39 rfl rfl
    · rw [if_neg (show ¬ ((σ 101 0) ≤ y1) from c8)] at h
      refine go_aload_n (pc' := 11) dX1_find_10 rfl rfl (Nat.le_of_ble_eq_true rfl) ?_
      refine go_getR (k' := 12) (L0 := 50) (P' := 102) (pc' := 14) dX1_find_11 rfl rf_1_9 rfl rfl (by omega) ?_
      refine go_iload_n (pc' := 15) dX1_find_14 rfl rfl ?_
      obtain ⟨g2, h⟩ := gd h
      refine go_iald (pc' := 16) dX1_find_15 rfl g2 ?_
      refine go_iload_n (pc' := 17) dX1_find_16 rfl rfl ?_
      refine go_icmp_ne (t := 32) (pc' := 20) dX1_find_17 rfl rfl (fun c7 => ?_) (fun c7 => ?_)
      · rw [if_pos (show (σ 102 y1) ≠ x1 from c7)] at h
        obtain ⟨g3, h⟩ := gd h
        refine go_iinc (L' := [some (pvR 1 0 101), some (pvI x1), some (pvI x2), some (pvI (y1 + 1))]) (pc' := 35) dX1_find_32 rfl rfl g3 rfl ?_
        refine go_goto (t := 2) dX1_find_35 rfl ?_
        exact ih (y1 + 1) _ h
      · rw [if_neg (show ¬ ((σ 102 y1) ≠ x1) from c7)] at h
        refine go_aload_n (pc' := 21) dX1_find_20 rfl rfl (Nat.le_of_ble_eq_true rfl) ?_
        refine go_getR (k' := 12) (L0 := 50) (P' := 103) (pc' := 24) dX1_find_21 rfl rf_1_15 rfl rfl (by omega) ?_
        refine go_iload_n (pc' := 25) dX1_find_24 rfl rfl ?_
        obtain ⟨g4, h⟩ := gd h
        refine go_iald (pc' := 26) dX1_find_25 rfl g4 ?_
        refine go_iload_n (pc' := 27) dX1_find_26 rfl rfl ?_
        refine go_icmp_ne (t := 32) (pc' := 30) dX1_find_27 rfl rfl (fun c6 => ?_) (fun c6 => ?_)
        · rw [if_pos (show (σ 103 y1) ≠ x2 from c6)] at h
          obtain ⟨g5, h⟩ := gd h
          refine go_iinc (L' := [some (pvR 1 0 101), some (pvI x1), some (pvI x2), some (pvI (y1 + 1))]) (pc' := 35) dX1_find_32 rfl rfl g5 rfl ?_
          refine go_goto (t := 2) dX1_find_35 rfl ?_
          exact ih (y1 + 1) _ h
        · rw [if_neg (show ¬ ((σ 103 y1) ≠ x2) from c6)] at h
          refine go_iload_n (pc' := 31) dX1_find_30 rfl rfl ?_
          cases h
          exact go_iret dX1_find_31 rfl rfl

set_option maxRecDepth 10000 in
theorem l_FR_find (d : Nat) (n e : Nat) (σ : Hp) (x1 : Int) (x2 : Int) (r : Int) (h : f_FR_find σ x1 x2 = some r) : Ev (d + 1) 81 [pvR 1 0 101, pvI x1, pvI x2] (true, n, e, σ) (0, some (pvI r), true, n, e, σ) := by
  unfold f_FR_find at h
  refine Ev.of mtE81 rfl rfl rfl rfl ?_
  show Go none (Ev (d + 0)) mt81 0 [some (pvR 1 0 101), some (pvI x1), some (pvI x2), none] [] (true, n, e, σ) (0, some (pvI r), true, n, e, σ)
  refine go_iconst (pc' := 1) dX1_find_0 rfl (r32_c rfl) ?_
  refine go_istore_n (L' := [some (pvR 1 0 101), some (pvI x1), some (pvI x2), some (pvI 0)]) (pc' := 2) dX1_find_1 rfl (Nat.le_of_ble_eq_true rfl) rfl ?_
  exact l_FR_find_2 d n e σ x1 x2 zFuel 0 _ h

set_option maxRecDepth 10000 in
theorem l_FR_add (d : Nat) (n e : Nat) (σ : Hp) (x1 : Int) (x2 : Int) (x3 : Int) (r : Hp) (h : f_FR_add σ x1 x2 x3 = some r) : Ev (d + 1) 82 [pvR 1 0 101, pvI x1, pvI x2, pvI x3] (true, n, e, σ) (0, none, true, n, e, r) := by
  unfold f_FR_add at h
  refine Ev.of mtE82 rfl rfl rfl rfl ?_
  show Go none (Ev (d + 0)) mt82 0 [some (pvR 1 0 101), some (pvI x1), some (pvI x2), some (pvI x3)] [] (true, n, e, σ) (0, none, true, n, e, r)
  refine go_aload_n (pc' := 1) dX1_add_0 rfl rfl (Nat.le_of_ble_eq_true rfl) ?_
  refine go_getI (pc' := 4) dX1_add_1 rfl rf_1_30 rfl ?_
  refine go_bipush (pc' := 6) dX1_add_4 rfl (r32_c rfl) (by decide) ?_
  obtain ⟨j1, k2, h⟩ := bd h
  have k2J : Go none (Ev (d + 0)) mt82 49 [some (pvR 1 0 101), some (pvI x1), some (pvI x2), some (pvI x3)] [] (true, n, e, j1) (0, none, true, n, e, r) := by
    cases h
    exact go_vret dX1_add_49 rfl rfl
  clear h
  have h := k2
  refine go_icmp_ge (t := 49) (pc' := 9) dX1_add_6 rfl rfl (fun c7 => ?_) (fun c7 => ?_)
  · rw [if_pos (show 50 ≤ (σ 101 0) from c7)] at h
    cases h
    exact k2J
  · rw [if_neg (show ¬ (50 ≤ (σ 101 0)) from c7)] at h
    refine go_aload_n (pc' := 10) dX1_add_9 rfl rfl (Nat.le_of_ble_eq_true rfl) ?_
    refine go_getR (k' := 12) (L0 := 50) (P' := 102) (pc' := 13) dX1_add_10 rfl rf_1_9 rfl rfl (by omega) ?_
    refine go_aload_n (pc' := 14) dX1_add_13 rfl rfl (Nat.le_of_ble_eq_true rfl) ?_
    refine go_getI (pc' := 17) dX1_add_14 rfl rf_1_30 rfl ?_
    refine go_iload_n (pc' := 18) dX1_add_17 rfl rfl ?_
    obtain ⟨g3, h⟩ := gd h
    refine go_iast (pc' := 19) dX1_add_18 rfl g3 ?_
    refine go_aload_n (pc' := 20) dX1_add_19 rfl rfl (Nat.le_of_ble_eq_true rfl) ?_
    refine go_getR (k' := 12) (L0 := 50) (P' := 103) (pc' := 23) dX1_add_20 rfl rf_1_15 rfl rfl (by omega) ?_
    refine go_aload_n (pc' := 24) dX1_add_23 rfl rfl (Nat.le_of_ble_eq_true rfl) ?_
    refine go_getI (pc' := 27) dX1_add_24 rfl rf_1_30 rfl ?_
    refine go_iload_n (pc' := 28) dX1_add_27 rfl rfl ?_
    obtain ⟨g4, h⟩ := gd h
    refine go_iast (pc' := 29) dX1_add_28 rfl g4 ?_
    refine go_aload_n (pc' := 30) dX1_add_29 rfl rfl (Nat.le_of_ble_eq_true rfl) ?_
    refine go_getR (k' := 12) (L0 := 50) (P' := 104) (pc' := 33) dX1_add_30 rfl rf_1_18 rfl rfl (by omega) ?_
    refine go_aload_n (pc' := 34) dX1_add_33 rfl rfl (Nat.le_of_ble_eq_true rfl) ?_
    refine go_getI (pc' := 37) dX1_add_34 rfl rf_1_30 rfl ?_
    refine go_iload_n (pc' := 38) dX1_add_37 rfl rfl ?_
    obtain ⟨g5, h⟩ := gd h
    refine go_iast (pc' := 39) dX1_add_38 rfl g5 ?_
    refine go_aload_n (pc' := 40) dX1_add_39 rfl rfl (Nat.le_of_ble_eq_true rfl) ?_
    refine go_dup (pc' := 41) dX1_add_40 rfl (Nat.ne_of_beq_eq_false rfl) ?_
    refine go_getI (pc' := 44) dX1_add_41 rfl rf_1_30 rfl ?_
    refine go_iconst (pc' := 45) dX1_add_44 rfl (r32_c rfl) ?_
    obtain ⟨g6, h⟩ := gd h
    refine go_iadd (pc' := 46) dX1_add_45 rfl g6 ?_
    refine go_putI (pc' := 49) dX1_add_46 rfl rf_1_30 rfl ?_
    cases h
    exact k2J

set_option maxRecDepth 10000 in
theorem l_K_has (d : Nat) (n e : Nat) (σ : Hp) (x1 : Int) (r : Int) (h : f_K_has σ x1 = some r) : Ev (d + 1) 85 [pvR 3 0 108, pvI x1] (true, n, e, σ) (0, some (pvI r), true, n, e, σ) := by
  unfold f_K_has at h
  refine Ev.of mtE85 rfl rfl rfl rfl ?_
  show Go none (Ev (d + 0)) mt85 0 [some (pvR 3 0 108), some (pvI x1)] [] (true, n, e, σ) (0, some (pvI r), true, n, e, σ)
  refine go_iload_n (pc' := 1) dX3_has_0 rfl rfl ?_
  obtain ⟨j1, k2, h⟩ := bd h
  have k2J : Go none (Ev (d + 0)) mt85 23 [some (pvR 3 0 108), some (pvI x1)] [pvI j1] (true, n, e, σ) (0, some (pvI r), true, n, e, σ) := by
    obtain ⟨g5, h⟩ := gd h
    cases h
    exact go_zret dX3_has_23 rfl g5 rfl
  clear h
  have h := k2
  refine go_if_lt (t := 22) (pc' := 4) dX3_has_1 rfl rfl (fun c6 => ?_) (fun c6 => ?_)
  · rw [if_pos (show x1 < 0 from c6)] at h
    refine go_iconst (pc' := 23) dX3_has_22 rfl (r32_c rfl) ?_
    cases h
    exact k2J
  · rw [if_neg (show ¬ (x1 < 0) from c6)] at h
    refine go_iload_n (pc' := 5) dX3_has_4 rfl rfl ?_
    refine go_aload_n (pc' := 6) dX3_has_5 rfl rfl (Nat.le_of_ble_eq_true rfl) ?_
    refine go_getI (pc' := 9) dX3_has_6 rfl rf_3_22 rfl ?_
    refine go_icmp_ge (t := 22) (pc' := 12) dX3_has_9 rfl rfl (fun c4 => ?_) (fun c4 => ?_)
    · rw [if_pos (show (σ 108 0) ≤ x1 from c4)] at h
      refine go_iconst (pc' := 23) dX3_has_22 rfl (r32_c rfl) ?_
      cases h
      exact k2J
    · rw [if_neg (show ¬ ((σ 108 0) ≤ x1) from c4)] at h
      refine go_iload_n (pc' := 13) dX3_has_12 rfl rfl ?_
      refine go_bipush (pc' := 15) dX3_has_13 rfl (r32_c rfl) (by decide) ?_
      refine go_icmp_ge (t := 22) (pc' := 18) dX3_has_15 rfl rfl (fun c3 => ?_) (fun c3 => ?_)
      · rw [if_pos (show 20 ≤ x1 from c3)] at h
        refine go_iconst (pc' := 23) dX3_has_22 rfl (r32_c rfl) ?_
        cases h
        exact k2J
      · rw [if_neg (show ¬ (20 ≤ x1) from c3)] at h
        refine go_iconst (pc' := 19) dX3_has_18 rfl (r32_c rfl) ?_
        refine go_goto (t := 23) dX3_has_19 rfl ?_
        cases h
        exact k2J

set_option maxRecDepth 10000 in
theorem l_K_cellAt (d : Nat) (n e : Nat) (σ : Hp) (x1 : Int) (r : Int) (h : f_K_cellAt σ x1 = some r) : Ev (d + 2) 84 [pvR 3 0 108, pvI x1] (true, n, e, σ) (0, some (pvI r), true, n, e, σ) := by
  unfold f_K_cellAt at h
  refine Ev.of mtE84 rfl rfl rfl rfl ?_
  show Go none (Ev (d + 1)) mt84 0 [some (pvR 3 0 108), some (pvI x1)] [] (true, n, e, σ) (0, some (pvI r), true, n, e, σ)
  refine go_aload_n (pc' := 1) dX3_cellAt_0 rfl rfl (Nat.le_of_ble_eq_true rfl) ?_
  refine go_iload_n (pc' := 2) dX3_cellAt_1 rfl rfl ?_
  obtain ⟨v1, k2, h⟩ := bd h
  have k2 := l_K_has (d + 0) n e σ x1 _ k2
  refine go_call (kc := 85) (Mc := mt85) (v := some (pvI v1)) (w' := (true, n, e, σ)) (pc' := 5) (st' := [pvI v1]) [pvR 3 0 108, pvI x1] [] (Or.inl rfl) dX3_cellAt_2 rfl rm_3_26 mtE85 rfl rfl rfl (Nat.le_of_ble_eq_true rfl) (Or.inr ⟨_, _, 108, rfl, Or.inl rfl⟩) k2 rfl ?_
  obtain ⟨j3, k4, h⟩ := bd h
  have k4J : Go none (Ev (d + 1)) mt84 18 [some (pvR 3 0 108), some (pvI x1)] [pvI j3] (true, n, e, σ) (0, some (pvI r), true, n, e, σ) := by
    cases h
    exact go_iret dX3_cellAt_18 rfl rfl
  clear h
  have h := k4
  refine go_if_eq (t := 17) (pc' := 8) dX3_cellAt_5 rfl rfl (fun c6 => ?_) (fun c6 => ?_)
  · rw [if_pos (show v1 = 0 from c6)] at h
    refine go_iconst (pc' := 18) dX3_cellAt_17 rfl (r32_c rfl) ?_
    cases h
    exact k4J
  · rw [if_neg (show ¬ (v1 = 0) from c6)] at h
    refine go_aload_n (pc' := 9) dX3_cellAt_8 rfl rfl (Nat.le_of_ble_eq_true rfl) ?_
    refine go_getR (k' := 12) (L0 := 20) (P' := 109) (pc' := 12) dX3_cellAt_9 rfl rf_3_9 rfl rfl (by omega) ?_
    refine go_iload_n (pc' := 13) dX3_cellAt_12 rfl rfl ?_
    obtain ⟨g5, h⟩ := gd h
    refine go_iald (pc' := 14) dX3_cellAt_13 rfl g5 ?_
    refine go_goto (t := 18) dX3_cellAt_14 rfl ?_
    cases h
    exact k4J

set_option maxRecDepth 10000 in
theorem l_K_measureAt (d : Nat) (n e : Nat) (σ : Hp) (x1 : Int) (r : Int) (h : f_K_measureAt σ x1 = some r) : Ev (d + 2) 86 [pvR 3 0 108, pvI x1] (true, n, e, σ) (0, some (pvI r), true, n, e, σ) := by
  unfold f_K_measureAt at h
  refine Ev.of mtE86 rfl rfl rfl rfl ?_
  show Go none (Ev (d + 1)) mt86 0 [some (pvR 3 0 108), some (pvI x1)] [] (true, n, e, σ) (0, some (pvI r), true, n, e, σ)
  refine go_aload_n (pc' := 1) dX3_measureAt_0 rfl rfl (Nat.le_of_ble_eq_true rfl) ?_
  refine go_iload_n (pc' := 2) dX3_measureAt_1 rfl rfl ?_
  obtain ⟨v1, k2, h⟩ := bd h
  have k2 := l_K_has (d + 0) n e σ x1 _ k2
  refine go_call (kc := 85) (Mc := mt85) (v := some (pvI v1)) (w' := (true, n, e, σ)) (pc' := 5) (st' := [pvI v1]) [pvR 3 0 108, pvI x1] [] (Or.inl rfl) dX3_measureAt_2 rfl rm_3_26 mtE85 rfl rfl rfl (Nat.le_of_ble_eq_true rfl) (Or.inr ⟨_, _, 108, rfl, Or.inl rfl⟩) k2 rfl ?_
  obtain ⟨j3, k4, h⟩ := bd h
  have k4J : Go none (Ev (d + 1)) mt86 18 [some (pvR 3 0 108), some (pvI x1)] [pvI j3] (true, n, e, σ) (0, some (pvI r), true, n, e, σ) := by
    cases h
    exact go_iret dX3_measureAt_18 rfl rfl
  clear h
  have h := k4
  refine go_if_eq (t := 17) (pc' := 8) dX3_measureAt_5 rfl rfl (fun c6 => ?_) (fun c6 => ?_)
  · rw [if_pos (show v1 = 0 from c6)] at h
    refine go_iconst (pc' := 18) dX3_measureAt_17 rfl (r32_c rfl) ?_
    cases h
    exact k4J
  · rw [if_neg (show ¬ (v1 = 0) from c6)] at h
    refine go_aload_n (pc' := 9) dX3_measureAt_8 rfl rfl (Nat.le_of_ble_eq_true rfl) ?_
    refine go_getR (k' := 12) (L0 := 20) (P' := 110) (pc' := 12) dX3_measureAt_9 rfl rf_3_15 rfl rfl (by omega) ?_
    refine go_iload_n (pc' := 13) dX3_measureAt_12 rfl rfl ?_
    obtain ⟨g5, h⟩ := gd h
    refine go_iald (pc' := 14) dX3_measureAt_13 rfl g5 ?_
    refine go_goto (t := 18) dX3_measureAt_14 rfl ?_
    cases h
    exact k4J

set_option maxRecDepth 10000 in
theorem l_MS_needs (d : Nat) (n e : Nat) (σ : Hp) (x1 : Int) (x2 : Int) (r : Int) (h : f_MS_needs σ x1 x2 = some r) : Ev (d + 2) 87 [pvR 4 0 95, pvI x1, pvI x2] (true, n, e, σ) (0, some (pvI r), true, n, e, σ) := by
  unfold f_MS_needs at h
  refine Ev.of mtE87 rfl rfl rfl rfl ?_
  show Go none (Ev (d + 1)) mt87 0 [some (pvR 4 0 95), some (pvI x1), some (pvI x2)] [] (true, n, e, σ) (0, some (pvI r), true, n, e, σ)
  refine go_aload_n (pc' := 1) dX4_needs_0 rfl rfl (Nat.le_of_ble_eq_true rfl) ?_
  refine go_iload_n (pc' := 2) dX4_needs_1 rfl rfl ?_
  obtain ⟨v1, k2, h⟩ := bd h
  have k2 := l_MS_has (d + 0) n e σ x1 _ k2
  refine go_call (kc := 69) (Mc := mt69) (v := some (pvI v1)) (w' := (true, n, e, σ)) (pc' := 5) (st' := [pvI v1]) [pvR 4 0 95, pvI x1] [] (Or.inl rfl) dX4_needs_2 rfl rm_4_31 mtE69 rfl rfl rfl (Nat.le_of_ble_eq_true rfl) (Or.inr ⟨_, _, 95, rfl, Or.inl rfl⟩) k2 rfl ?_
  obtain ⟨j3, k4, h⟩ := bd h
  have k4J : Go none (Ev (d + 1)) mt87 35 [some (pvR 4 0 95), some (pvI x1), some (pvI x2)] [pvI j3] (true, n, e, σ) (0, some (pvI r), true, n, e, σ) := by
    obtain ⟨g10, h⟩ := gd h
    cases h
    exact go_zret dX4_needs_35 rfl g10 rfl
  clear h
  have h := k4
  refine go_if_eq (t := 34) (pc' := 8) dX4_needs_5 rfl rfl (fun c11 => ?_) (fun c11 => ?_)
  · rw [if_pos (show v1 = 0 from c11)] at h
    refine go_iconst (pc' := 35) dX4_needs_34 rfl (r32_c rfl) ?_
    cases h
    exact k4J
  · rw [if_neg (show ¬ (v1 = 0) from c11)] at h
    refine go_aload_n (pc' := 9) dX4_needs_8 rfl rfl (Nat.le_of_ble_eq_true rfl) ?_
    refine go_iload_n (pc' := 10) dX4_needs_9 rfl rfl ?_
    obtain ⟨v5, k6, h⟩ := bd h
    have k6 := l_MS_has (d + 0) n e σ x2 _ k6
    refine go_call (kc := 69) (Mc := mt69) (v := some (pvI v5)) (w' := (true, n, e, σ)) (pc' := 13) (st' := [pvI v5]) [pvR 4 0 95, pvI x2] [] (Or.inl rfl) dX4_needs_10 rfl rm_4_31 mtE69 rfl rfl rfl (Nat.le_of_ble_eq_true rfl) (Or.inr ⟨_, _, 95, rfl, Or.inl rfl⟩) k6 rfl ?_
    refine go_if_eq (t := 34) (pc' := 16) dX4_needs_13 rfl rfl (fun c9 => ?_) (fun c9 => ?_)
    · rw [if_pos (show v5 = 0 from c9)] at h
      refine go_iconst (pc' := 35) dX4_needs_34 rfl (r32_c rfl) ?_
      cases h
      exact k4J
    · rw [if_neg (show ¬ (v5 = 0) from c9)] at h
      refine go_aload_n (pc' := 17) dX4_needs_16 rfl rfl (Nat.le_of_ble_eq_true rfl) ?_
      refine go_getR (k' := 12) (L0 := 4) (P' := 99) (pc' := 20) dX4_needs_17 rfl rf_4_21 rfl rfl (by omega) ?_
      refine go_iload_n (pc' := 21) dX4_needs_20 rfl rfl ?_
      obtain ⟨g7, h⟩ := gd h
      refine go_iald (pc' := 22) dX4_needs_21 rfl g7 ?_
      refine go_iload_n (pc' := 23) dX4_needs_22 rfl rfl ?_
      refine go_ishr (pc' := 24) dX4_needs_23 rfl ?_
      refine go_iconst (pc' := 25) dX4_needs_24 rfl (r32_c rfl) ?_
      refine go_iand (pc' := 26) dX4_needs_25 rfl ?_
      refine go_iconst (pc' := 27) dX4_needs_26 rfl (r32_c rfl) ?_
      refine go_icmp_ne (t := 34) (pc' := 30) dX4_needs_27 rfl rfl (fun c8 => ?_) (fun c8 => ?_)
      · rw [if_pos (show (iand (ishr (σ 99 x1) x2) 1) ≠ 1 from c8)] at h
        refine go_iconst (pc' := 35) dX4_needs_34 rfl (r32_c rfl) ?_
        cases h
        exact k4J
      · rw [if_neg (show ¬ ((iand (ishr (σ 99 x1) x2) 1) ≠ 1) from c8)] at h
        refine go_iconst (pc' := 31) dX4_needs_30 rfl (r32_c rfl) ?_
        refine go_goto (t := 35) dX4_needs_31 rfl ?_
        cases h
        exact k4J

set_option maxRecDepth 10000 in
theorem l_D_orderOf (d : Nat) (n e : Nat) (σ : Hp) (p : Nat) (x1 : Int) (r : Int) (h : f_D_orderOf σ p x1 = some r) : Ev (d + 2) 90 [pvR 0 0 p, pvI x1] (true, n, e, σ) (0, some (pvI r), true, n, e, σ) := by
  unfold f_D_orderOf at h
  refine Ev.of mtE90 rfl rfl rfl rfl ?_
  show Go none (Ev (d + 1)) mt90 0 [some (pvR 0 0 p), some (pvI x1)] [] (true, n, e, σ) (0, some (pvI r), true, n, e, σ)
  refine go_aload_n (pc' := 1) dX0_orderOf_0 rfl rfl (Nat.le_of_ble_eq_true rfl) ?_
  refine go_iload_n (pc' := 2) dX0_orderOf_1 rfl rfl ?_
  obtain ⟨v1, k2, h⟩ := bd h
  have k2 := l_D_has (d + 0) n e σ p x1 _ k2
  refine go_call (kc := 23) (Mc := mt23) (v := some (pvI v1)) (w' := (true, n, e, σ)) (pc' := 5) (st' := [pvI v1]) [pvR 0 0 p, pvI x1] [] (Or.inl rfl) dX0_orderOf_2 rfl rm_0_65 mtE23 rfl rfl rfl (Nat.le_of_ble_eq_true rfl) (Or.inr ⟨_, _, p, rfl, Or.inl rfl⟩) k2 rfl ?_
  obtain ⟨j3, k4, h⟩ := bd h
  have k4J : Go none (Ev (d + 1)) mt90 28 [some (pvR 0 0 p), some (pvI x1)] [pvI j3] (true, n, e, σ) (0, some (pvI r), true, n, e, σ) := by
    cases h
    exact go_iret dX0_orderOf_28 rfl rfl
  clear h
  have h := k4
  refine go_if_eq (t := 27) (pc' := 8) dX0_orderOf_5 rfl rfl (fun c8 => ?_) (fun c8 => ?_)
  · rw [if_pos (show v1 = 0 from c8)] at h
    refine go_iconst (pc' := 28) dX0_orderOf_27 rfl (r32_c rfl) ?_
    cases h
    exact k4J
  · rw [if_neg (show ¬ (v1 = 0) from c8)] at h
    refine go_aload_n (pc' := 9) dX0_orderOf_8 rfl rfl (Nat.le_of_ble_eq_true rfl) ?_
    refine go_getR (k' := 12) (L0 := 12) (P' := (p + 5)) (pc' := 12) dX0_orderOf_9 rfl rf_0_22 rfl rfl (by omega) ?_
    refine go_iload_n (pc' := 13) dX0_orderOf_12 rfl rfl ?_
    obtain ⟨g5, h⟩ := gd h
    refine go_iald (pc' := 14) dX0_orderOf_13 rfl g5 ?_
    refine go_iconst (pc' := 15) dX0_orderOf_14 rfl (r32_c rfl) ?_
    refine go_icmp_ne (t := 27) (pc' := 18) dX0_orderOf_15 rfl rfl (fun c7 => ?_) (fun c7 => ?_)
    · rw [if_pos (show (σ (p + 5) x1) ≠ 2 from c7)] at h
      refine go_iconst (pc' := 28) dX0_orderOf_27 rfl (r32_c rfl) ?_
      cases h
      exact k4J
    · rw [if_neg (show ¬ ((σ (p + 5) x1) ≠ 2) from c7)] at h
      refine go_aload_n (pc' := 19) dX0_orderOf_18 rfl rfl (Nat.le_of_ble_eq_true rfl) ?_
      refine go_getR (k' := 12) (L0 := 12) (P' := (p + 9)) (pc' := 22) dX0_orderOf_19 rfl rf_0_35 rfl rfl (by omega) ?_
      refine go_iload_n (pc' := 23) dX0_orderOf_22 rfl rfl ?_
      obtain ⟨g6, h⟩ := gd h
      refine go_iald (pc' := 24) dX0_orderOf_23 rfl g6 ?_
      refine go_goto (t := 28) dX0_orderOf_24 rfl ?_
      cases h
      exact k4J

set_option maxRecDepth 10000 in
theorem l_S_leading_7 (d : Nat) (n : Nat) (e : Nat) (σ : Hp) (x1 : Int) {out : Out} : ∀ (F : Nat) (y1 : Int) (y2 : Int) (y3 : Int) (j16 : Int × Int × Int), f_S_leading_7 σ x1 F y1 y2 y3 = some j16 → Go none (Ev (d + 2)) mt89 54 [some (pvR 7 0 1), some (pvI x1), some (pvI j16.1), some (pvI j16.2.1), some (pvI j16.2.2), none] [] (true, n, e, σ) out → Go none (Ev (d + 2)) mt89 7 [some (pvR 7 0 1), some (pvI x1), some (pvI y1), some (pvI y2), some (pvI y3), none] [] (true, n, e, σ) out := by
  intro F
  induction F with
  | zero =>
    intro _ _ _ _ h
    intro _
    rw [f_S_leading_7] at h
    cases h
  | succ F ih =>
    intro y1 y2 y3 j16 h hx
    rw [f_S_leading_7] at h
    refine go_iload (pc' := 9) dX7_leading_7 rfl rfl ?_
    refine go_iconst (pc' := 10) dX7_leading_9 rfl (r32_c rfl) ?_
    refine go_icmp_ge (t := 54) (pc' := 13) dX7_leading_10 rfl rfl (fun c15 => ?_) (fun c15 => ?_)
    · rw [if_pos (show 3 ≤ y3 from c15)] at h
      cases h
      exact hx
    · rw [if_neg (show ¬ (3 ≤ y3) from c15)] at h
      refine go_aload_n (pc' := 14) dX7_leading_13 rfl rfl (Nat.le_of_ble_eq_true rfl) ?_
      refine go_iload (pc' := 16) dX7_leading_14 rfl rfl ?_
      obtain ⟨v4, k5, h⟩ := bd h
      have k5 := l_S_dimension (d + 1) n e σ y3 _ k5
      refine go_call (kc := 21) (Mc := mt21) (v := some (pvR 0 0 v4)) (w' := (true, n, e, σ)) (pc' := 19) (st' := [pvR 0 0 v4]) [pvR 7 0 1, pvI y3] [] (Or.inl rfl) dX7_leading_16 rfl rm_7_60 mtE21 rfl rfl rfl (Nat.le_of_ble_eq_true rfl) (Or.inr ⟨_, _, 1, rfl, Or.inl rfl⟩) k5 rfl ?_
      refine go_iload_n (pc' := 20) dX7_leading_19 rfl rfl ?_
      refine go_iload (pc' := 22) dX7_leading_20 rfl rfl ?_
      obtain ⟨v6, k7, h⟩ := bd h
      have k7 := l_C_memberOf (d + 1) n e σ x1 y3 _ k7
      refine go_call (kc := 79) (Mc := mt79) (v := some (pvI v6)) (w' := (true, n, e, σ)) (pc' := 25) (st' := [pvI v6, pvR 0 0 v4]) [pvI x1, pvI y3] [pvR 0 0 v4] (Or.inr (Or.inr (Or.inr (Or.inl rfl)))) dX7_leading_22 rfl rm_7_45 mtE79 rfl rfl rfl (Nat.le_of_ble_eq_true rfl) (Or.inl (by decide)) k7 rfl ?_
      obtain ⟨v8, k9, h⟩ := bd h
      have k9 := l_D_orderOf (d + 0) n e σ v4 v6 _ k9
      refine go_call (kc := 90) (Mc := mt90) (v := some (pvI v8)) (w' := (true, n, e, σ)) (pc' := 28) (st' := [pvI v8]) [pvR 0 0 v4, pvI v6] [] (Or.inl rfl) dX7_leading_25 rfl rm_7_64 mtE90 rfl rfl rfl (Nat.le_of_ble_eq_true rfl) (Or.inr ⟨_, _, v4, rfl, Or.inl rfl⟩) k9 rfl ?_
      refine go_istore (L' := [some (pvR 7 0 1), some (pvI x1), some (pvI y1), some (pvI y2), some (pvI y3), some (pvI v8)]) (pc' := 30) dX7_leading_28 rfl (Nat.le_of_ble_eq_true rfl) rfl ?_
      refine go_iload (pc' := 32) dX7_leading_30 rfl rfl ?_
      refine go_iconst (pc' := 33) dX7_leading_32 rfl (r32_c rfl) ?_
      obtain ⟨j10, k11, h⟩ := bd h
      have k11J : Go none (Ev (d + 2)) mt89 48 [some (pvR 7 0 1), some (pvI x1), some (pvI j10.1), some (pvI j10.2), some (pvI y3), some (pvI v8)] [] (true, n, e, σ) out := by
        obtain ⟨g13, h⟩ := gd h
        refine go_iinc (L' := [some (pvR 7 0 1), some (pvI x1), some (pvI j10.1), some (pvI j10.2), some (pvI (y3 + 1)), some (pvI v8)]) (pc' := 51) dX7_leading_48 rfl rfl g13 rfl ?_
        refine go_goto (t := 7) dX7_leading_51 rfl ?_
        exact go_sub (ih j10.1 j10.2 (y3 + 1) _ h hx) ⟨Or.inr rfl, Or.inr rfl, Or.inr rfl, Or.inr rfl, Or.inr rfl, Or.inl rfl, trivial⟩
      clear h
      have h := k11
      refine go_icmp_eq (t := 48) (pc' := 36) dX7_leading_33 rfl rfl (fun c14 => ?_) (fun c14 => ?_)
      · rw [if_pos (show v8 = (-1) from c14)] at h
        cases h
        exact k11J
      · rw [if_neg (show ¬ (v8 = (-1)) from c14)] at h
        refine go_iload (pc' := 38) dX7_leading_36 rfl rfl ?_
        refine go_iload_n (pc' := 39) dX7_leading_38 rfl rfl ?_
        refine go_icmp_lt (t := 48) (pc' := 42) dX7_leading_39 rfl rfl (fun c12 => ?_) (fun c12 => ?_)
        · rw [if_pos (show v8 < y2 from c12)] at h
          cases h
          exact k11J
        · rw [if_neg (show ¬ (v8 < y2) from c12)] at h
          refine go_iload (pc' := 44) dX7_leading_42 rfl rfl ?_
          refine go_istore_n (L' := [some (pvR 7 0 1), some (pvI x1), some (pvI y1), some (pvI v8), some (pvI y3), some (pvI v8)]) (pc' := 45) dX7_leading_44 rfl (Nat.le_of_ble_eq_true rfl) rfl ?_
          refine go_iload (pc' := 47) dX7_leading_45 rfl rfl ?_
          refine go_istore_n (L' := [some (pvR 7 0 1), some (pvI x1), some (pvI y3), some (pvI v8), some (pvI y3), some (pvI v8)]) (pc' := 48) dX7_leading_47 rfl (Nat.le_of_ble_eq_true rfl) rfl ?_
          cases h
          exact k11J

set_option maxRecDepth 10000 in
theorem l_S_leading (d : Nat) (n e : Nat) (σ : Hp) (x1 : Int) (r : Int) (h : f_S_leading σ x1 = some r) : Ev (d + 3) 89 [pvR 7 0 1, pvI x1] (true, n, e, σ) (0, some (pvI r), true, n, e, σ) := by
  unfold f_S_leading at h
  refine Ev.of mtE89 rfl rfl rfl rfl ?_
  show Go none (Ev (d + 2)) mt89 0 [some (pvR 7 0 1), some (pvI x1), none, none, none, none] [] (true, n, e, σ) (0, some (pvI r), true, n, e, σ)
  refine go_iconst (pc' := 1) dX7_leading_0 rfl (r32_c rfl) ?_
  refine go_istore_n (L' := [some (pvR 7 0 1), some (pvI x1), some (pvI (-1)), none, none, none]) (pc' := 2) dX7_leading_1 rfl (Nat.le_of_ble_eq_true rfl) rfl ?_
  refine go_iconst (pc' := 3) dX7_leading_2 rfl (r32_c rfl) ?_
  refine go_istore_n (L' := [some (pvR 7 0 1), some (pvI x1), some (pvI (-1)), some (pvI (-1)), none, none]) (pc' := 4) dX7_leading_3 rfl (Nat.le_of_ble_eq_true rfl) rfl ?_
  refine go_iconst (pc' := 5) dX7_leading_4 rfl (r32_c rfl) ?_
  refine go_istore (L' := [some (pvR 7 0 1), some (pvI x1), some (pvI (-1)), some (pvI (-1)), some (pvI 0), none]) (pc' := 7) dX7_leading_5 rfl (Nat.le_of_ble_eq_true rfl) rfl ?_
  obtain ⟨j17, k18, h⟩ := bd h
  refine l_S_leading_7 d n e σ x1 zFuel (-1) (-1) 0 _ k18 ?_
  refine go_iload_n (pc' := 55) dX7_leading_54 rfl rfl ?_
  cases h
  exact go_iret dX7_leading_55 rfl rfl

set_option maxRecDepth 10000 in
theorem l_S_isCalculated (d : Nat) (n e : Nat) (σ : Hp) (x1 : Int) (r : Int) (h : f_S_isCalculated σ x1 = some r) : Ev (d + 4) 88 [pvR 7 0 1, pvI x1] (true, n, e, σ) (0, some (pvI r), true, n, e, σ) := by
  unfold f_S_isCalculated at h
  refine Ev.of mtE88 rfl rfl rfl rfl ?_
  show Go none (Ev (d + 3)) mt88 0 [some (pvR 7 0 1), some (pvI x1)] [] (true, n, e, σ) (0, some (pvI r), true, n, e, σ)
  refine go_aload_n (pc' := 1) dX7_isCalculated_0 rfl rfl (Nat.le_of_ble_eq_true rfl) ?_
  refine go_iload_n (pc' := 2) dX7_isCalculated_1 rfl rfl ?_
  obtain ⟨v1, k2, h⟩ := bd h
  have k2 := l_S_leading (d + 0) n e σ x1 _ k2
  refine go_call (kc := 89) (Mc := mt89) (v := some (pvI v1)) (w' := (true, n, e, σ)) (pc' := 5) (st' := [pvI v1]) [pvR 7 0 1, pvI x1] [] (Or.inl rfl) dX7_isCalculated_2 rfl rm_7_56 mtE89 rfl rfl rfl (Nat.le_of_ble_eq_true rfl) (Or.inr ⟨_, _, 1, rfl, Or.inl rfl⟩) k2 rfl ?_
  refine go_iconst (pc' := 6) dX7_isCalculated_5 rfl (r32_c rfl) ?_
  obtain ⟨j3, k4, h⟩ := bd h
  have k4J : Go none (Ev (d + 3)) mt88 14 [some (pvR 7 0 1), some (pvI x1)] [pvI j3] (true, n, e, σ) (0, some (pvI r), true, n, e, σ) := by
    obtain ⟨g5, h⟩ := gd h
    cases h
    exact go_zret dX7_isCalculated_14 rfl g5 rfl
  clear h
  have h := k4
  refine go_icmp_eq (t := 13) (pc' := 9) dX7_isCalculated_6 rfl rfl (fun c6 => ?_) (fun c6 => ?_)
  · rw [if_pos (show v1 = (-1) from c6)] at h
    refine go_iconst (pc' := 14) dX7_isCalculated_13 rfl (r32_c rfl) ?_
    cases h
    exact k4J
  · rw [if_neg (show ¬ (v1 = (-1)) from c6)] at h
    refine go_iconst (pc' := 10) dX7_isCalculated_9 rfl (r32_c rfl) ?_
    refine go_goto (t := 14) dX7_isCalculated_10 rfl ?_
    cases h
    exact k4J

