/-! ===== links: each function is what its bytecode does ===== -/
set_option maxRecDepth 10000 in
theorem l_R_asAsked (d : Nat) (n e : Nat) (σ : Hp) (x1 : Int) (r : Int × Hp) (h : f_R_asAsked σ x1 = some r) : Ev (d + 241) 109 [pvR 6 0 116, pvI x1] (true, n, e, σ) (0, some (pvL r.1), true, n, e, r.2) := by
  unfold f_R_asAsked at h
  refine Ev.of mtE109 rfl rfl rfl rfl ?_
  show Go none (Ev (d + 240)) mt109 0 [some (pvR 6 0 116), some (pvI x1)] [] (true, n, e, σ) (0, some (pvL r.1), true, n, e, r.2)
  refine go_aload_n (pc' := 1) dX6_asAsked_0 rfl rfl (Nat.le_of_ble_eq_true rfl) ?_
  refine go_getR (k' := 7) (L0 := 0) (P' := 1) (pc' := 4) dX6_asAsked_1 rfl rf_6_37 rfl rfl (by omega) ?_
  refine go_iload_n (pc' := 5) dX6_asAsked_4 rfl rfl ?_
  obtain ⟨v1, k2, h⟩ := bd h
  have k2 := l_S_isSeen (d + 238) n e σ x1 _ k2
  refine go_call (kc := 92) (Mc := mt92) (v := some (pvI v1)) (w' := (true, n, e, σ)) (pc' := 8) (st' := [pvI v1]) [pvR 7 0 1, pvI x1] [] (Or.inl rfl) dX6_asAsked_5 rfl rm_6_56 mtE92 rfl rfl rfl (Nat.le_of_ble_eq_true rfl) (Or.inr ⟨_, _, 1, rfl, Or.inl rfl⟩) k2 rfl ?_
  obtain ⟨j3, k4, h⟩ := bd h
  have k4J : Go none (Ev (d + 240)) mt109 23 [some (pvR 6 0 116), some (pvI x1)] [pvL j3.1] (true, n, e, j3.2) (0, some (pvL r.1), true, n, e, r.2) := by
    cases h
    exact go_lret dX6_asAsked_23 rfl rfl
  clear h
  have h := k4
  refine go_if_eq (t := 20) (pc' := 11) dX6_asAsked_8 rfl rfl (fun c7 => ?_) (fun c7 => ?_)
  · rw [if_pos (show v1 = 0 from c7)] at h
    refine go_ldc2 (pc' := 23) dX6_asAsked_20 rfl (r64_c rfl) rc_6_66 ?_
    cases h
    exact k4J
  · rw [if_neg (show ¬ (v1 = 0) from c7)] at h
    refine go_aload_n (pc' := 12) dX6_asAsked_11 rfl rfl (Nat.le_of_ble_eq_true rfl) ?_
    refine go_iload_n (pc' := 13) dX6_asAsked_12 rfl rfl ?_
    refine go_iconst (pc' := 14) dX6_asAsked_13 rfl (r32_c rfl) ?_
    obtain ⟨v5, k6, h⟩ := bd h
    have k6 := l_R_valueOf zDeep (d + 0) n e σ x1 0 _ k6
    refine go_call (kc := 110) (Mc := mt110) (v := some (pvL v5.1)) (w' := (true, n, e, v5.2)) (pc' := 17) (st' := [pvL v5.1]) [pvR 6 0 116, pvI x1, pvI 0] [] (Or.inl rfl) dX6_asAsked_14 rfl rm_6_62 mtE110 rfl rfl rfl (Nat.le_of_ble_eq_true rfl) (Or.inr ⟨_, _, 116, rfl, Or.inl rfl⟩) k6 rfl ?_
    refine go_goto (t := 23) dX6_asAsked_17 rfl ?_
    cases h
    exact k4J

set_option maxRecDepth 10000 in
theorem l_K_keep_12 (d : Nat) (n : Nat) (e : Nat) (x1 : Int) (x2 : Int) (x3 : Int) {out : Out} : ∀ (F : Nat) (y3 : Int) (σ4 : Hp) (j10 : Int × Hp), f_K_keep_12 F y3 σ4 = some j10 → Go none (Ev (d + 2)) mt129 35 [some (pvR 3 0 108), some (pvI x1), some (pvI x2), some (pvL x3), none, some (pvI j10.1)] [] (true, n, e, j10.2) out → Go none (Ev (d + 2)) mt129 12 [some (pvR 3 0 108), some (pvI x1), some (pvI x2), some (pvL x3), none, some (pvI y3)] [] (true, n, e, σ4) out := by
  intro F
  induction F with
  | zero =>
    intro _ _ _ h
    intro _
    rw [f_K_keep_12] at h
    cases h
  | succ F ih =>
    intro y3 σ4 j10 h hx
    rw [f_K_keep_12] at h
    refine go_iload (pc' := 14) dX3_keep_12 rfl rfl ?_
    refine go_bipush (pc' := 16) dX3_keep_14 rfl (r32_c rfl) (by decide) ?_
    refine go_icmp_ge (t := 35) (pc' := 19) dX3_keep_16 rfl rfl (fun c9 => ?_) (fun c9 => ?_)
    · rw [if_pos (show 20 ≤ y3 from c9)] at h
      cases h
      exact hx
    · rw [if_neg (show ¬ (20 ≤ y3) from c9)] at h
      refine go_aload_n (pc' := 20) dX3_keep_19 rfl rfl (Nat.le_of_ble_eq_true rfl) ?_
      refine go_iload (pc' := 22) dX3_keep_20 rfl rfl ?_
      refine go_iload (pc' := 24) dX3_keep_22 rfl rfl ?_
      refine go_iconst (pc' := 25) dX3_keep_24 rfl (r32_c rfl) ?_
      obtain ⟨g5, h⟩ := gd h
      refine go_isub (pc' := 26) dX3_keep_25 rfl g5 ?_
      obtain ⟨v6, k7, h⟩ := bd h
      have k7 := l_K_shift (d + 0) n e σ4 y3 (y3 - 1) _ k7
      refine go_call (kc := 94) (Mc := mt94) (v := none) (w' := (true, n, e, v6)) (pc' := 29) (st' := []) [pvR 3 0 108, pvI y3, pvI (y3 - 1)] [] (Or.inl rfl) dX3_keep_26 rfl rm_3_32 mtE94 rfl rfl rfl (Nat.le_of_ble_eq_true rfl) (Or.inr ⟨_, _, 108, rfl, Or.inl rfl⟩) k7 rfl ?_
      obtain ⟨g8, h⟩ := gd h
      refine go_iinc (L' := [some (pvR 3 0 108), some (pvI x1), some (pvI x2), some (pvL x3), none, some (pvI (y3 + 1))]) (pc' := 32) dX3_keep_29 rfl rfl g8 rfl ?_
      refine go_goto (t := 12) dX3_keep_32 rfl ?_
      exact ih (y3 + 1) v6 _ h hx

set_option maxRecDepth 10000 in
theorem l_K_keep (d : Nat) (n e : Nat) (σ : Hp) (x1 : Int) (x2 : Int) (x3 : Int) (r : Hp) (h : f_K_keep σ x1 x2 x3 = some r) : Ev (d + 3) 129 [pvR 3 0 108, pvI x1, pvI x2, pvL x3] (true, n, e, σ) (0, none, true, n, e, r) := by
  unfold f_K_keep at h
  refine Ev.of mtE129 rfl rfl rfl rfl ?_
  show Go none (Ev (d + 2)) mt129 0 [some (pvR 3 0 108), some (pvI x1), some (pvI x2), some (pvL x3), none, none] [] (true, n, e, σ) (0, none, true, n, e, r)
  refine go_aload_n (pc' := 1) dX3_keep_0 rfl rfl (Nat.le_of_ble_eq_true rfl) ?_
  refine go_getI (pc' := 4) dX3_keep_1 rfl rf_3_22 rfl ?_
  refine go_bipush (pc' := 6) dX3_keep_4 rfl (r32_c rfl) (by decide) ?_
  obtain ⟨j1, k2, h⟩ := bd h
  have k2J : Go none (Ev (d + 2)) mt129 41 [some (pvR 3 0 108), some (pvI x1), some (pvI x2), some (pvL x3), none, none] [] (true, n, e, j1) (0, none, true, n, e, r) := by
    refine go_aload_n (pc' := 42) dX3_keep_41 rfl rfl (Nat.le_of_ble_eq_true rfl) ?_
    refine go_getR (k' := 12) (L0 := 20) (P' := 109) (pc' := 45) dX3_keep_42 rfl rf_3_9 rfl rfl (by omega) ?_
    refine go_aload_n (pc' := 46) dX3_keep_45 rfl rfl (Nat.le_of_ble_eq_true rfl) ?_
    refine go_getI (pc' := 49) dX3_keep_46 rfl rf_3_22 rfl ?_
    refine go_iload_n (pc' := 50) dX3_keep_49 rfl rfl ?_
    obtain ⟨g13, h⟩ := gd h
    refine go_iast (pc' := 51) dX3_keep_50 rfl g13 ?_
    refine go_aload_n (pc' := 52) dX3_keep_51 rfl rfl (Nat.le_of_ble_eq_true rfl) ?_
    refine go_getR (k' := 12) (L0 := 20) (P' := 110) (pc' := 55) dX3_keep_52 rfl rf_3_15 rfl rfl (by omega) ?_
    refine go_aload_n (pc' := 56) dX3_keep_55 rfl rfl (Nat.le_of_ble_eq_true rfl) ?_
    refine go_getI (pc' := 59) dX3_keep_56 rfl rf_3_22 rfl ?_
    refine go_iload_n (pc' := 60) dX3_keep_59 rfl rfl ?_
    obtain ⟨g14, h⟩ := gd h
    refine go_iast (pc' := 61) dX3_keep_60 rfl g14 ?_
    refine go_aload_n (pc' := 62) dX3_keep_61 rfl rfl (Nat.le_of_ble_eq_true rfl) ?_
    refine go_getR (k' := 13) (L0 := 20) (P' := 111) (pc' := 65) dX3_keep_62 rfl rf_3_18 rfl rfl (by omega) ?_
    refine go_aload_n (pc' := 66) dX3_keep_65 rfl rfl (Nat.le_of_ble_eq_true rfl) ?_
    refine go_getI (pc' := 69) dX3_keep_66 rfl rf_3_22 rfl ?_
    refine go_lload_n (pc' := 70) dX3_keep_69 rfl rfl ?_
    obtain ⟨g15, h⟩ := gd h
    refine go_last (pc' := 71) dX3_keep_70 rfl g15 ?_
    refine go_aload_n (pc' := 72) dX3_keep_71 rfl rfl (Nat.le_of_ble_eq_true rfl) ?_
    refine go_dup (pc' := 73) dX3_keep_72 rfl (Nat.ne_of_beq_eq_false rfl) ?_
    refine go_getI (pc' := 76) dX3_keep_73 rfl rf_3_22 rfl ?_
    refine go_iconst (pc' := 77) dX3_keep_76 rfl (r32_c rfl) ?_
    obtain ⟨g16, h⟩ := gd h
    refine go_iadd (pc' := 78) dX3_keep_77 rfl g16 ?_
    refine go_putI (pc' := 81) dX3_keep_78 rfl rf_3_22 rfl ?_
    cases h
    exact go_vret dX3_keep_81 rfl rfl
  clear h
  have h := k2
  refine go_icmp_lt (t := 41) (pc' := 9) dX3_keep_6 rfl rfl (fun c17 => ?_) (fun c17 => ?_)
  · rw [if_pos (show (σ 108 0) < 20 from c17)] at h
    cases h
    exact k2J
  · rw [if_neg (show ¬ ((σ 108 0) < 20) from c17)] at h
    refine go_iconst (pc' := 10) dX3_keep_9 rfl (r32_c rfl) ?_
    refine go_istore (L' := [some (pvR 3 0 108), some (pvI x1), some (pvI x2), some (pvL x3), none, some (pvI 1)]) (pc' := 12) dX3_keep_10 rfl (Nat.le_of_ble_eq_true rfl) rfl ?_
    obtain ⟨j11, k12, h⟩ := bd h
    refine l_K_keep_12 d n e x1 x2 x3 zFuel 1 σ _ k12 ?_
    refine go_aload_n (pc' := 36) dX3_keep_35 rfl rfl (Nat.le_of_ble_eq_true rfl) ?_
    refine go_bipush (pc' := 38) dX3_keep_36 rfl (r32_c rfl) (by decide) ?_
    refine go_putI (pc' := 41) dX3_keep_38 rfl rf_3_22 rfl ?_
    cases h
    exact go_sub k2J ⟨Or.inr rfl, Or.inr rfl, Or.inr rfl, Or.inr rfl, Or.inr rfl, Or.inl rfl, trivial⟩

set_option maxRecDepth 10000 in
theorem l_C_cell (d : Nat) (n e : Nat) (σ : Hp) (x1 : Int) (x2 : Int) (x3 : Int) (x4 : Int) (r : Nat × Int × Hp) (h : f_C_cell σ x1 x2 x3 x4 = some r) : Ev (d + 242) 105 [pvR 10 0 0, pvI x1, pvI x2, pvI x3, pvI x4] (true, n, e, σ) (r.1, if r.1 = 0 then some (pvL r.2.1) else none, true, n, e + if r.1 = 0 then 0 else 1, r.2.2) := by
  unfold f_C_cell at h
  refine Ev.of mtE105 rfl rfl rfl rfl ?_
  show Go none (Ev (d + 241)) mt105 0 [some (pvR 10 0 0), some (pvI x1), some (pvI x2), some (pvI x3), some (pvI x4), none, none, none, none] [] (true, n, e, σ) (r.1, if r.1 = 0 then some (pvL r.2.1) else none, true, n, e + if r.1 = 0 then 0 else 1, r.2.2)
  refine go_aload_n (pc' := 1) dX10_cell_0 rfl rfl (Nat.le_of_ble_eq_true rfl) ?_
  refine go_iload_n (pc' := 2) dX10_cell_1 rfl rfl ?_
  refine go_iload_n (pc' := 3) dX10_cell_2 rfl rfl ?_
  refine go_iload_n (pc' := 4) dX10_cell_3 rfl rfl ?_
  refine go_iload (pc' := 6) dX10_cell_4 rfl rfl ?_
  obtain ⟨v1, k2, h⟩ := bd h
  by_cases c3 : v1.1 = 0
  · rw [if_pos c3] at h
    have k2 := l_C_existingCell (d + 238) n e σ x1 x2 x3 x4 _ k2
    rw [c3] at k2
    refine go_call (kc := 77) (Mc := mt77) (v := some (pvI v1.2)) (w' := (true, n, e, σ)) (pc' := 9) (st' := [pvI v1.2]) [pvR 10 0 0, pvI x1, pvI x2, pvI x3, pvI x4] [] (Or.inl rfl) dX10_cell_6 rfl rm_10_205 mtE77 rfl rfl rfl (Nat.le_of_ble_eq_true rfl) (Or.inr ⟨_, _, 0, rfl, Or.inl rfl⟩) k2 rfl ?_
    refine go_istore (L' := [some (pvR 10 0 0), some (pvI x1), some (pvI x2), some (pvI x3), some (pvI x4), some (pvI v1.2), none, none, none]) (pc' := 11) dX10_cell_9 rfl (Nat.le_of_ble_eq_true rfl) rfl ?_
    refine go_aload_n (pc' := 12) dX10_cell_11 rfl rfl (Nat.le_of_ble_eq_true rfl) ?_
    refine go_getR (k' := 7) (L0 := 0) (P' := 1) (pc' := 15) dX10_cell_12 rfl rf_10_12 rfl rfl (by omega) ?_
    refine go_iload (pc' := 17) dX10_cell_15 rfl rfl ?_
    obtain ⟨v4, k5, h⟩ := bd h
    have k5 := l_S_isSeen (d + 239) n e σ v1.2 _ k5
    refine go_call (kc := 92) (Mc := mt92) (v := some (pvI v4)) (w' := (true, n, e, σ)) (pc' := 20) (st' := [pvI v4]) [pvR 7 0 1, pvI v1.2] [] (Or.inl rfl) dX10_cell_17 rfl rm_10_231 mtE92 rfl rfl rfl (Nat.le_of_ble_eq_true rfl) (Or.inr ⟨_, _, 1, rfl, Or.inl rfl⟩) k5 rfl ?_
    refine go_if_ne (t := 27) (pc' := 23) dX10_cell_20 rfl rfl (fun c18 => ?_) (fun c18 => ?_)
    · rw [if_pos (show v4 ≠ 0 from c18)] at h
      refine go_aload_n (pc' := 28) dX10_cell_27 rfl rfl (Nat.le_of_ble_eq_true rfl) ?_
      refine go_getR (k' := 3) (L0 := 0) (P' := 108) (pc' := 31) dX10_cell_28 rfl rf_10_35 rfl rfl (by omega) ?_
      refine go_iload (pc' := 33) dX10_cell_31 rfl rfl ?_
      refine go_iload (pc' := 35) dX10_cell_33 rfl rfl ?_
      obtain ⟨v6, k7, h⟩ := bd h
      have k7 := l_K_find (d + 240) n e σ v1.2 x4 _ k7
      refine go_call (kc := 106) (Mc := mt106) (v := some (pvI v6)) (w' := (true, n, e, σ)) (pc' := 38) (st' := [pvI v6]) [pvR 3 0 108, pvI v1.2, pvI x4] [] (Or.inl rfl) dX10_cell_35 rfl rm_10_234 mtE106 rfl rfl rfl (Nat.le_of_ble_eq_true rfl) (Or.inr ⟨_, _, 108, rfl, Or.inl rfl⟩) k7 rfl ?_
      refine go_istore (L' := [some (pvR 10 0 0), some (pvI x1), some (pvI x2), some (pvI x3), some (pvI x4), some (pvI v1.2), some (pvI v6), none, none]) (pc' := 40) dX10_cell_38 rfl (Nat.le_of_ble_eq_true rfl) rfl ?_
      refine go_iload (pc' := 42) dX10_cell_40 rfl rfl ?_
      refine go_iconst (pc' := 43) dX10_cell_42 rfl (r32_c rfl) ?_
      refine go_icmp_eq (t := 69) (pc' := 46) dX10_cell_43 rfl rfl (fun c17 => ?_) (fun c17 => ?_)
      · rw [if_pos (show v6 = (-1) from c17)] at h
        refine go_aload_n (pc' := 70) dX10_cell_69 rfl rfl (Nat.le_of_ble_eq_true rfl) ?_
        refine go_getR (k' := 6) (L0 := 0) (P' := 116) (pc' := 73) dX10_cell_70 rfl rf_10_51 rfl rfl (by omega) ?_
        refine go_iload (pc' := 75) dX10_cell_73 rfl rfl ?_
        obtain ⟨v8, k9, h⟩ := bd h
        have k9 := l_R_begins (d + 240) n e σ x4 _ k9
        refine go_call (kc := 108) (Mc := mt108) (v := none) (w' := (true, n, e, v8)) (pc' := 78) (st' := []) [pvR 6 0 116, pvI x4] [] (Or.inl rfl) dX10_cell_75 rfl rm_10_242 mtE108 rfl rfl rfl (Nat.le_of_ble_eq_true rfl) (Or.inr ⟨_, _, 116, rfl, Or.inl rfl⟩) k9 rfl ?_
        refine go_aload_n (pc' := 79) dX10_cell_78 rfl rfl (Nat.le_of_ble_eq_true rfl) ?_
        refine go_getR (k' := 6) (L0 := 0) (P' := 116) (pc' := 82) dX10_cell_79 rfl rf_10_51 rfl rfl (by omega) ?_
        refine go_iload (pc' := 84) dX10_cell_82 rfl rfl ?_
        obtain ⟨v10, k11, h⟩ := bd h
        have k11 := l_R_asAsked (d + 0) n e v8 v1.2 _ k11
        refine go_call (kc := 109) (Mc := mt109) (v := some (pvL v10.1)) (w' := (true, n, e, v10.2)) (pc' := 87) (st' := [pvL v10.1]) [pvR 6 0 116, pvI v1.2] [] (Or.inl rfl) dX10_cell_84 rfl rm_10_245 mtE109 rfl rfl rfl (Nat.le_of_ble_eq_true rfl) (Or.inr ⟨_, _, 116, rfl, Or.inl rfl⟩) k11 rfl ?_
        refine go_lstore (L' := [some (pvR 10 0 0), some (pvI x1), some (pvI x2), some (pvI x3), some (pvI x4), some (pvI v1.2), some (pvI v6), some (pvL v10.1), none]) (pc' := 89) dX10_cell_87 rfl (Nat.le_of_ble_eq_true rfl) rfl ?_
        refine go_aload_n (pc' := 90) dX10_cell_89 rfl rfl (Nat.le_of_ble_eq_true rfl) ?_
        refine go_getR (k' := 3) (L0 := 0) (P' := 108) (pc' := 93) dX10_cell_90 rfl rf_10_35 rfl rfl (by omega) ?_
        refine go_iload (pc' := 95) dX10_cell_93 rfl rfl ?_
        refine go_iload (pc' := 97) dX10_cell_95 rfl rfl ?_
        refine go_lload (pc' := 99) dX10_cell_97 rfl rfl ?_
        obtain ⟨v12, k13, h⟩ := bd h
        have k13 := l_K_keep (d + 238) n e v10.2 v1.2 x4 v10.1 _ k13
        refine go_call (kc := 129) (Mc := mt129) (v := none) (w' := (true, n, e, v12)) (pc' := 102) (st' := []) [pvR 3 0 108, pvI v1.2, pvI x4, pvL v10.1] [] (Or.inl rfl) dX10_cell_99 rfl rm_10_248 mtE129 rfl rfl rfl (Nat.le_of_ble_eq_true rfl) (Or.inr ⟨_, _, 108, rfl, Or.inl rfl⟩) k13 rfl ?_
        refine go_lload (pc' := 104) dX10_cell_102 rfl rfl ?_
        cases h
        exact go_lret dX10_cell_104 rfl rfl
      · rw [if_neg (show ¬ (v6 = (-1)) from c17)] at h
        refine go_aload_n (pc' := 47) dX10_cell_46 rfl rfl (Nat.le_of_ble_eq_true rfl) ?_
        refine go_getR (k' := 3) (L0 := 0) (P' := 108) (pc' := 50) dX10_cell_47 rfl rf_10_35 rfl rfl (by omega) ?_
        refine go_dup (pc' := 51) dX10_cell_50 rfl (Nat.ne_of_beq_eq_false rfl) ?_
        refine go_getI (pc' := 54) dX10_cell_51 rfl rf_10_235 rfl ?_
        refine go_iconst (pc' := 55) dX10_cell_54 rfl (r32_c rfl) ?_
        obtain ⟨g14, h⟩ := gd h
        refine go_iadd (pc' := 56) dX10_cell_55 rfl g14 ?_
        refine go_putI (pc' := 59) dX10_cell_56 rfl rf_10_235 rfl ?_
        refine go_aload_n (pc' := 60) dX10_cell_59 rfl rfl (Nat.le_of_ble_eq_true rfl) ?_
        refine go_getR (k' := 3) (L0 := 0) (P' := 108) (pc' := 63) dX10_cell_60 rfl rf_10_35 rfl rfl (by omega) ?_
        refine go_iload (pc' := 65) dX10_cell_63 rfl rfl ?_
        obtain ⟨v15, k16, h⟩ := bd h
        have k16 := l_K_valueAt (d + 239) n e (hset σ 108 1 ((σ 108 1) + 1)) v6 _ k16
        refine go_call (kc := 107) (Mc := mt107) (v := some (pvL v15)) (w' := (true, n, e, (hset σ 108 1 ((σ 108 1) + 1)))) (pc' := 68) (st' := [pvL v15]) [pvR 3 0 108, pvI v6] [] (Or.inl rfl) dX10_cell_65 rfl rm_10_238 mtE107 rfl rfl rfl (Nat.le_of_ble_eq_true rfl) (Or.inr ⟨_, _, 108, rfl, Or.inl rfl⟩) k16 rfl ?_
        cases h
        exact go_lret dX10_cell_68 rfl rfl
    · rw [if_neg (show ¬ (v4 ≠ 0) from c18)] at h
      refine go_ldc2 (pc' := 26) dX10_cell_23 rfl (r64_c rfl) rc_10_232 ?_
      cases h
      exact go_lret dX10_cell_26 rfl rfl
  · rw [if_neg c3] at h
    obtain ⟨g19, h⟩ := gd h
    cases h
    have k2 := l_C_existingCell (d + 238) n e σ x1 x2 x3 x4 _ k2
    simp only [if_neg c3] at k2 ⊢
    exact go_callX (kc := 77) (Mc := mt77) [pvR 10 0 0, pvI x1, pvI x2, pvI x3, pvI x4] [] (Or.inl rfl) dX10_cell_6 rm_10_205 mtE77 rfl rfl rfl (Nat.le_of_ble_eq_true rfl) (Or.inr ⟨_, _, 0, rfl, Or.inl rfl⟩) rfl c3 g19 k2 rfl

set_option maxRecDepth 10000 in
theorem l_L_cell (d : Nat) (n e : Nat) (σ : Hp) (x2 : Int) (x3 : Int) (x4 : Int) (x5 : Int) (r : Int × Nat × Hp) (h : f_L_cell σ e x2 x3 x4 x5 = some r) : Ev (d + 243) 104 [pvR 10 0 0, pvI x2, pvI x3, pvI x4, pvI x5, pvR 13 1 170] (true, n, e, σ) (0, some (pvI r.1), true, n, r.2.1, r.2.2) := by
  unfold f_L_cell at h
  refine Ev.of mtE104 rfl rfl rfl rfl ?_
  show Go none (Ev (d + 242)) mt104 0 [some (pvR 10 0 0), some (pvI x2), some (pvI x3), some (pvI x4), some (pvI x5), some (pvR 13 1 170), none] [] (true, n, e, σ) (0, some (pvI r.1), true, n, r.2.1, r.2.2)
  refine go_aload (pc' := 2) dL_cell_0 rfl rfl (Nat.le_of_ble_eq_true rfl) ?_
  refine go_iconst (pc' := 3) dL_cell_2 rfl (r32_c rfl) ?_
  refine go_aload_n (pc' := 4) dL_cell_3 rfl rfl (Nat.le_of_ble_eq_true rfl) ?_
  refine go_iload_n (pc' := 5) dL_cell_4 rfl rfl ?_
  refine go_iload_n (pc' := 6) dL_cell_5 rfl rfl ?_
  refine go_iload_n (pc' := 7) dL_cell_6 rfl rfl ?_
  refine go_iload (pc' := 9) dL_cell_7 rfl rfl ?_
  obtain ⟨v1, k2, h⟩ := bd h
  by_cases c3 : v1.1 = 0
  · rw [if_pos c3] at h
    have k2 := l_C_cell (d + 0) n e σ x2 x3 x4 x5 _ k2
    rw [c3] at k2
    refine go_call (kc := 105) (Mc := mt105) (v := some (pvL v1.2.1)) (w' := (true, n, e, v1.2.2)) (pc' := 12) (st' := [pvL v1.2.1, pvI 0, pvR 13 1 170]) [pvR 10 0 0, pvI x2, pvI x3, pvI x4, pvI x5] [pvI 0, pvR 13 1 170] (Or.inl rfl) dL_cell_9 rfl rm_12_53 mtE105 rfl rfl rfl (Nat.le_of_ble_eq_true rfl) (Or.inr ⟨_, _, 0, rfl, Or.inl rfl⟩) k2 rfl ?_
    obtain ⟨g4, h⟩ := gd h
    refine go_last (pc' := 13) dL_cell_12 rfl g4 ?_
    refine go_goto (t := 20) dL_cell_13 rfl ?_
    refine go_iconst (pc' := 21) dL_cell_20 rfl (r32_c rfl) ?_
    cases h
    exact go_iret dL_cell_21 rfl rfl
  · rw [if_neg c3] at h
    by_cases c5 : v1.1 = 1
    · rw [if_pos c5] at h
      have k2 := l_C_cell (d + 0) n e σ x2 x3 x4 x5 _ k2
      rw [c5] at k2
      refine go_callH (x := 1) (kc := 105) (Mc := mt105) (h := 16) (i := 6) (ln := 2) (w' := (true, n, (e + 1), v1.2.2)) (pc' := 18) (L' := [some (pvR 10 0 0), some (pvI x2), some (pvI x3), some (pvI x4), some (pvI x5), some (pvR 13 1 170), none]) [pvR 10 0 0, pvI x2, pvI x3, pvI x4, pvI x5] [pvI 0, pvR 13 1 170] (Or.inl rfl) dL_cell_9 rm_12_53 mtE105 rfl rfl rfl (Nat.le_of_ble_eq_true rfl) (Or.inr ⟨_, _, 0, rfl, Or.inl rfl⟩) (by decide +kernel) (by decide) (by decide) (Or.inl ⟨dL_cell_16, rfl⟩) (Nat.le_of_ble_eq_true rfl) rfl rfl k2 ?_
      refine go_iconst (pc' := 19) dL_cell_18 rfl (r32_c rfl) ?_
      cases h
      exact go_iret dL_cell_19 rfl rfl
    · rw [if_neg c5] at h
      cases h

set_option maxRecDepth 10000 in
theorem l_C_cellAnew (d : Nat) (n e : Nat) (σ : Hp) (x1 : Int) (x2 : Int) (x3 : Int) (x4 : Int) (r : Nat × Int × Hp) (h : f_C_cellAnew σ x1 x2 x3 x4 = some r) : Ev (d + 242) 131 [pvR 10 0 0, pvI x1, pvI x2, pvI x3, pvI x4] (true, n, e, σ) (r.1, if r.1 = 0 then some (pvL r.2.1) else none, true, n, e + if r.1 = 0 then 0 else 1, r.2.2) := by
  unfold f_C_cellAnew at h
  refine Ev.of mtE131 rfl rfl rfl rfl ?_
  show Go none (Ev (d + 241)) mt131 0 [some (pvR 10 0 0), some (pvI x1), some (pvI x2), some (pvI x3), some (pvI x4), none] [] (true, n, e, σ) (r.1, if r.1 = 0 then some (pvL r.2.1) else none, true, n, e + if r.1 = 0 then 0 else 1, r.2.2)
  refine go_aload_n (pc' := 1) dX10_cellAnew_0 rfl rfl (Nat.le_of_ble_eq_true rfl) ?_
  refine go_iload_n (pc' := 2) dX10_cellAnew_1 rfl rfl ?_
  refine go_iload_n (pc' := 3) dX10_cellAnew_2 rfl rfl ?_
  refine go_iload_n (pc' := 4) dX10_cellAnew_3 rfl rfl ?_
  refine go_iload (pc' := 6) dX10_cellAnew_4 rfl rfl ?_
  obtain ⟨v1, k2, h⟩ := bd h
  by_cases c3 : v1.1 = 0
  · rw [if_pos c3] at h
    have k2 := l_C_existingCell (d + 238) n e σ x1 x2 x3 x4 _ k2
    rw [c3] at k2
    refine go_call (kc := 77) (Mc := mt77) (v := some (pvI v1.2)) (w' := (true, n, e, σ)) (pc' := 9) (st' := [pvI v1.2]) [pvR 10 0 0, pvI x1, pvI x2, pvI x3, pvI x4] [] (Or.inl rfl) dX10_cellAnew_6 rfl rm_10_205 mtE77 rfl rfl rfl (Nat.le_of_ble_eq_true rfl) (Or.inr ⟨_, _, 0, rfl, Or.inl rfl⟩) k2 rfl ?_
    refine go_istore (L' := [some (pvR 10 0 0), some (pvI x1), some (pvI x2), some (pvI x3), some (pvI x4), some (pvI v1.2)]) (pc' := 11) dX10_cellAnew_9 rfl (Nat.le_of_ble_eq_true rfl) rfl ?_
    refine go_aload_n (pc' := 12) dX10_cellAnew_11 rfl rfl (Nat.le_of_ble_eq_true rfl) ?_
    refine go_getR (k' := 6) (L0 := 0) (P' := 116) (pc' := 15) dX10_cellAnew_12 rfl rf_10_51 rfl rfl (by omega) ?_
    refine go_iload (pc' := 17) dX10_cellAnew_15 rfl rfl ?_
    obtain ⟨v4, k5, h⟩ := bd h
    have k5 := l_R_begins (d + 240) n e σ x4 _ k5
    refine go_call (kc := 108) (Mc := mt108) (v := none) (w' := (true, n, e, v4)) (pc' := 20) (st' := []) [pvR 6 0 116, pvI x4] [] (Or.inl rfl) dX10_cellAnew_17 rfl rm_10_242 mtE108 rfl rfl rfl (Nat.le_of_ble_eq_true rfl) (Or.inr ⟨_, _, 116, rfl, Or.inl rfl⟩) k5 rfl ?_
    refine go_aload_n (pc' := 21) dX10_cellAnew_20 rfl rfl (Nat.le_of_ble_eq_true rfl) ?_
    refine go_getR (k' := 6) (L0 := 0) (P' := 116) (pc' := 24) dX10_cellAnew_21 rfl rf_10_51 rfl rfl (by omega) ?_
    refine go_iload (pc' := 26) dX10_cellAnew_24 rfl rfl ?_
    obtain ⟨v6, k7, h⟩ := bd h
    have k7 := l_R_asAsked (d + 0) n e v4 v1.2 _ k7
    refine go_call (kc := 109) (Mc := mt109) (v := some (pvL v6.1)) (w' := (true, n, e, v6.2)) (pc' := 29) (st' := [pvL v6.1]) [pvR 6 0 116, pvI v1.2] [] (Or.inl rfl) dX10_cellAnew_26 rfl rm_10_245 mtE109 rfl rfl rfl (Nat.le_of_ble_eq_true rfl) (Or.inr ⟨_, _, 116, rfl, Or.inl rfl⟩) k7 rfl ?_
    cases h
    exact go_lret dX10_cellAnew_29 rfl rfl
  · rw [if_neg c3] at h
    obtain ⟨g8, h⟩ := gd h
    cases h
    have k2 := l_C_existingCell (d + 238) n e σ x1 x2 x3 x4 _ k2
    simp only [if_neg c3] at k2 ⊢
    exact go_callX (kc := 77) (Mc := mt77) [pvR 10 0 0, pvI x1, pvI x2, pvI x3, pvI x4] [] (Or.inl rfl) dX10_cellAnew_6 rm_10_205 mtE77 rfl rfl rfl (Nat.le_of_ble_eq_true rfl) (Or.inr ⟨_, _, 0, rfl, Or.inl rfl⟩) rfl c3 g8 k2 rfl

set_option maxRecDepth 10000 in
theorem l_L_cellAnew (d : Nat) (n e : Nat) (σ : Hp) (x2 : Int) (x3 : Int) (x4 : Int) (x5 : Int) (r : Int × Nat × Hp) (h : f_L_cellAnew σ e x2 x3 x4 x5 = some r) : Ev (d + 243) 130 [pvR 10 0 0, pvI x2, pvI x3, pvI x4, pvI x5, pvR 13 1 170] (true, n, e, σ) (0, some (pvI r.1), true, n, r.2.1, r.2.2) := by
  unfold f_L_cellAnew at h
  refine Ev.of mtE130 rfl rfl rfl rfl ?_
  show Go none (Ev (d + 242)) mt130 0 [some (pvR 10 0 0), some (pvI x2), some (pvI x3), some (pvI x4), some (pvI x5), some (pvR 13 1 170), none] [] (true, n, e, σ) (0, some (pvI r.1), true, n, r.2.1, r.2.2)
  refine go_aload (pc' := 2) dL_cellAnew_0 rfl rfl (Nat.le_of_ble_eq_true rfl) ?_
  refine go_iconst (pc' := 3) dL_cellAnew_2 rfl (r32_c rfl) ?_
  refine go_aload_n (pc' := 4) dL_cellAnew_3 rfl rfl (Nat.le_of_ble_eq_true rfl) ?_
  refine go_iload_n (pc' := 5) dL_cellAnew_4 rfl rfl ?_
  refine go_iload_n (pc' := 6) dL_cellAnew_5 rfl rfl ?_
  refine go_iload_n (pc' := 7) dL_cellAnew_6 rfl rfl ?_
  refine go_iload (pc' := 9) dL_cellAnew_7 rfl rfl ?_
  obtain ⟨v1, k2, h⟩ := bd h
  by_cases c3 : v1.1 = 0
  · rw [if_pos c3] at h
    have k2 := l_C_cellAnew (d + 0) n e σ x2 x3 x4 x5 _ k2
    rw [c3] at k2
    refine go_call (kc := 131) (Mc := mt131) (v := some (pvL v1.2.1)) (w' := (true, n, e, v1.2.2)) (pc' := 12) (st' := [pvL v1.2.1, pvI 0, pvR 13 1 170]) [pvR 10 0 0, pvI x2, pvI x3, pvI x4, pvI x5] [pvI 0, pvR 13 1 170] (Or.inl rfl) dL_cellAnew_9 rfl rm_12_57 mtE131 rfl rfl rfl (Nat.le_of_ble_eq_true rfl) (Or.inr ⟨_, _, 0, rfl, Or.inl rfl⟩) k2 rfl ?_
    obtain ⟨g4, h⟩ := gd h
    refine go_last (pc' := 13) dL_cellAnew_12 rfl g4 ?_
    refine go_goto (t := 20) dL_cellAnew_13 rfl ?_
    refine go_iconst (pc' := 21) dL_cellAnew_20 rfl (r32_c rfl) ?_
    cases h
    exact go_iret dL_cellAnew_21 rfl rfl
  · rw [if_neg c3] at h
    by_cases c5 : v1.1 = 1
    · rw [if_pos c5] at h
      have k2 := l_C_cellAnew (d + 0) n e σ x2 x3 x4 x5 _ k2
      rw [c5] at k2
      refine go_callH (x := 1) (kc := 131) (Mc := mt131) (h := 16) (i := 6) (ln := 2) (w' := (true, n, (e + 1), v1.2.2)) (pc' := 18) (L' := [some (pvR 10 0 0), some (pvI x2), some (pvI x3), some (pvI x4), some (pvI x5), some (pvR 13 1 170), none]) [pvR 10 0 0, pvI x2, pvI x3, pvI x4, pvI x5] [pvI 0, pvR 13 1 170] (Or.inl rfl) dL_cellAnew_9 rm_12_57 mtE131 rfl rfl rfl (Nat.le_of_ble_eq_true rfl) (Or.inr ⟨_, _, 0, rfl, Or.inl rfl⟩) (by decide +kernel) (by decide) (by decide) (Or.inl ⟨dL_cellAnew_16, rfl⟩) (Nat.le_of_ble_eq_true rfl) rfl rfl k2 ?_
      refine go_iconst (pc' := 19) dL_cellAnew_18 rfl (r32_c rfl) ?_
      cases h
      exact go_iret dL_cellAnew_19 rfl rfl
    · rw [if_neg c5] at h
      cases h

set_option maxRecDepth 10000 in
theorem l_C_at (d : Nat) (n e : Nat) (σ : Hp) (x1 : Int) (x2 : Int) (r : Nat × Int × Hp) (h : f_C_at σ x1 x2 = some r) : Ev (d + 3) 133 [pvR 10 0 0, pvI x1, pvI x2] (true, n, e, σ) (r.1, if r.1 = 0 then some (pvI r.2.1) else none, true, n, e + if r.1 = 0 then 0 else 1, r.2.2) := by
  unfold f_C_at at h
  refine Ev.of mtE133 rfl rfl rfl rfl ?_
  show Go none (Ev (d + 2)) mt133 0 [some (pvR 10 0 0), some (pvI x1), some (pvI x2), none, none] [] (true, n, e, σ) (r.1, if r.1 = 0 then some (pvI r.2.1) else none, true, n, e + if r.1 = 0 then 0 else 1, r.2.2)
  refine go_aload_n (pc' := 1) dX10_at_0 rfl rfl (Nat.le_of_ble_eq_true rfl) ?_
  refine go_iload_n (pc' := 2) dX10_at_1 rfl rfl ?_
  obtain ⟨v1, k2, h⟩ := bd h
  by_cases c3 : v1.1 = 0
  · rw [if_pos c3] at h
    have k2 := l_C_existing (d + 0) n e σ x1 _ k2
    rw [c3] at k2
    refine go_call (kc := 20) (Mc := mt20) (v := some (pvR 0 0 v1.2)) (w' := (true, n, e, σ)) (pc' := 5) (st' := [pvR 0 0 v1.2]) [pvR 10 0 0, pvI x1] [] (Or.inl rfl) dX10_at_2 rfl rm_10_62 mtE20 rfl rfl rfl (Nat.le_of_ble_eq_true rfl) (Or.inr ⟨_, _, 0, rfl, Or.inl rfl⟩) k2 rfl ?_
    refine go_astore_n (L' := [some (pvR 10 0 0), some (pvI x1), some (pvI x2), some (pvR 0 0 v1.2), none]) (pc' := 6) dX10_at_5 rfl (Nat.le_of_ble_eq_true rfl) (Nat.le_of_ble_eq_true rfl) rfl ?_
    refine go_aload_n (pc' := 7) dX10_at_6 rfl rfl (Nat.le_of_ble_eq_true rfl) ?_
    refine go_iload_n (pc' := 8) dX10_at_7 rfl rfl ?_
    obtain ⟨v4, k5, h⟩ := bd h
    by_cases c6 : v4 = 0
    · rw [if_pos c6] at h
      have k5 := l_C_needMember (d + 0) n e σ v1.2 x2 _ k5
      rw [c6] at k5
      refine go_call (kc := 22) (Mc := mt22) (v := none) (w' := (true, n, e, σ)) (pc' := 11) (st' := []) [pvR 0 0 v1.2, pvI x2] [] (Or.inr (Or.inl rfl)) dX10_at_8 rfl rm_10_66 mtE22 rfl rfl rfl (Nat.le_of_ble_eq_true rfl) (Or.inl (by decide)) k5 rfl ?_
      refine go_aload_n (pc' := 12) dX10_at_11 rfl rfl (Nat.le_of_ble_eq_true rfl) ?_
      refine go_getI (pc' := 15) dX10_at_12 rfl rf_10_253 rfl ?_
      refine go_istore (L' := [some (pvR 10 0 0), some (pvI x1), some (pvI x2), some (pvR 0 0 v1.2), some (pvI (σ v1.2 1))]) (pc' := 17) dX10_at_15 rfl (Nat.le_of_ble_eq_true rfl) rfl ?_
      refine go_aload_n (pc' := 18) dX10_at_17 rfl rfl (Nat.le_of_ble_eq_true rfl) ?_
      refine go_iload_n (pc' := 19) dX10_at_18 rfl rfl ?_
      refine go_putI (pc' := 22) dX10_at_19 rfl rf_10_253 rfl ?_
      refine go_iload (pc' := 24) dX10_at_22 rfl rfl ?_
      cases h
      exact go_iret dX10_at_24 rfl rfl
    · rw [if_neg c6] at h
      obtain ⟨g7, h⟩ := gd h
      cases h
      have k5 := l_C_needMember (d + 0) n e σ v1.2 x2 _ k5
      simp only [if_neg c6] at k5 ⊢
      exact go_callX (kc := 22) (Mc := mt22) [pvR 0 0 v1.2, pvI x2] [] (Or.inr rfl) dX10_at_8 rm_10_66 mtE22 rfl rfl rfl (Nat.le_of_ble_eq_true rfl) (Or.inl (by decide)) rfl c6 g7 k5 rfl
  · rw [if_neg c3] at h
    obtain ⟨g8, h⟩ := gd h
    cases h
    have k2 := l_C_existing (d + 0) n e σ x1 _ k2
    simp only [if_neg c3] at k2 ⊢
    exact go_callX (kc := 20) (Mc := mt20) [pvR 10 0 0, pvI x1] [] (Or.inl rfl) dX10_at_2 rm_10_62 mtE20 rfl rfl rfl (Nat.le_of_ble_eq_true rfl) (Or.inr ⟨_, _, 0, rfl, Or.inl rfl⟩) rfl c3 g8 k2 rfl

set_option maxRecDepth 10000 in
theorem l_L_at (d : Nat) (n e : Nat) (σ : Hp) (x2 : Int) (x3 : Int) (r : Int × Nat × Hp) (h : f_L_at σ e x2 x3 = some r) : Ev (d + 4) 132 [pvR 10 0 0, pvI x2, pvI x3, pvR 13 1 170] (true, n, e, σ) (0, some (pvI r.1), true, n, r.2.1, r.2.2) := by
  unfold f_L_at at h
  refine Ev.of mtE132 rfl rfl rfl rfl ?_
  show Go none (Ev (d + 3)) mt132 0 [some (pvR 10 0 0), some (pvI x2), some (pvI x3), some (pvR 13 1 170), none] [] (true, n, e, σ) (0, some (pvI r.1), true, n, r.2.1, r.2.2)
  refine go_aload_n (pc' := 1) dL_at_0 rfl rfl (Nat.le_of_ble_eq_true rfl) ?_
  refine go_iconst (pc' := 2) dL_at_1 rfl (r32_c rfl) ?_
  refine go_aload_n (pc' := 3) dL_at_2 rfl rfl (Nat.le_of_ble_eq_true rfl) ?_
  refine go_iload_n (pc' := 4) dL_at_3 rfl rfl ?_
  refine go_iload_n (pc' := 5) dL_at_4 rfl rfl ?_
  obtain ⟨v1, k2, h⟩ := bd h
  by_cases c3 : v1.1 = 0
  · rw [if_pos c3] at h
    have k2 := l_C_at (d + 0) n e σ x2 x3 _ k2
    rw [c3] at k2
    refine go_call (kc := 133) (Mc := mt133) (v := some (pvI v1.2.1)) (w' := (true, n, e, v1.2.2)) (pc' := 8) (st' := [pvI v1.2.1, pvI 0, pvR 13 1 170]) [pvR 10 0 0, pvI x2, pvI x3] [pvI 0, pvR 13 1 170] (Or.inl rfl) dL_at_5 rfl rm_12_60 mtE133 rfl rfl rfl (Nat.le_of_ble_eq_true rfl) (Or.inr ⟨_, _, 0, rfl, Or.inl rfl⟩) k2 rfl ?_
    refine go_i2l (pc' := 9) dL_at_8 rfl ?_
    obtain ⟨g4, h⟩ := gd h
    refine go_last (pc' := 10) dL_at_9 rfl g4 ?_
    refine go_goto (t := 17) dL_at_10 rfl ?_
    refine go_iconst (pc' := 18) dL_at_17 rfl (r32_c rfl) ?_
    cases h
    exact go_iret dL_at_18 rfl rfl
  · rw [if_neg c3] at h
    by_cases c5 : v1.1 = 1
    · rw [if_pos c5] at h
      have k2 := l_C_at (d + 0) n e σ x2 x3 _ k2
      rw [c5] at k2
      refine go_callH (x := 1) (kc := 133) (Mc := mt133) (h := 13) (i := 4) (ln := 2) (w' := (true, n, (e + 1), v1.2.2)) (pc' := 15) (L' := [some (pvR 10 0 0), some (pvI x2), some (pvI x3), some (pvR 13 1 170), none]) [pvR 10 0 0, pvI x2, pvI x3] [pvI 0, pvR 13 1 170] (Or.inl rfl) dL_at_5 rm_12_60 mtE133 rfl rfl rfl (Nat.le_of_ble_eq_true rfl) (Or.inr ⟨_, _, 0, rfl, Or.inl rfl⟩) (by decide +kernel) (by decide) (by decide) (Or.inl ⟨dL_at_13, rfl⟩) (Nat.le_of_ble_eq_true rfl) rfl rfl k2 ?_
      refine go_iconst (pc' := 16) dL_at_15 rfl (r32_c rfl) ?_
      cases h
      exact go_iret dL_at_16 rfl rfl
    · rw [if_neg c5] at h
      cases h

set_option maxRecDepth 10000 in
theorem l_D_isLeaf_2 (d : Nat) (n : Nat) (e : Nat) (σ : Hp) (p : Nat) (x1 : Int) : ∀ (F : Nat) (y1 : Int) (r : Int), f_D_isLeaf_2 σ p x1 F y1 = some r → Go none (Ev (d + 2)) mt138 2 [some (pvR 0 0 p), some (pvI x1), some (pvI y1)] [] (true, n, e, σ) (0, some (pvI r), true, n, e, σ) := by
  intro F
  induction F with
  | zero =>
    intro _ _ h
    rw [f_D_isLeaf_2] at h
    cases h
  | succ F ih =>
    intro y1 r h
    rw [f_D_isLeaf_2] at h
    refine go_iload_n (pc' := 3) dX0_isLeaf_2 rfl rfl ?_
    refine go_aload_n (pc' := 4) dX0_isLeaf_3 rfl rfl (Nat.le_of_ble_eq_true rfl) ?_
    refine go_getI (pc' := 7) dX0_isLeaf_4 rfl rf_0_9 rfl ?_
    refine go_icmp_ge (t := 27) (pc' := 10) dX0_isLeaf_7 rfl rfl (fun c8 => ?_) (fun c8 => ?_)
    · rw [if_pos (show (σ p 0) ≤ y1 from c8)] at h
      refine go_iconst (pc' := 28) dX0_isLeaf_27 rfl (r32_c rfl) ?_
      obtain ⟨g2, h⟩ := gd h
      cases h
      exact go_zret dX0_isLeaf_28 rfl g2 rfl
    · rw [if_neg (show ¬ ((σ p 0) ≤ y1) from c8)] at h
      refine go_aload_n (pc' := 11) dX0_isLeaf_10 rfl rfl (Nat.le_of_ble_eq_true rfl) ?_
      refine go_iload_n (pc' := 12) dX0_isLeaf_11 rfl rfl ?_
      obtain ⟨v3, k4, h⟩ := bd h
      have k4 := l_D_parentOf (d + 0) n e σ p y1 _ k4
      refine go_call (kc := 50) (Mc := mt50) (v := some (pvI v3)) (w' := (true, n, e, σ)) (pc' := 15) (st' := [pvI v3]) [pvR 0 0 p, pvI y1] [] (Or.inl rfl) dX0_isLeaf_12 rfl rm_0_124 mtE50 rfl rfl rfl (Nat.le_of_ble_eq_true rfl) (Or.inr ⟨_, _, p, rfl, Or.inl rfl⟩) k4 rfl ?_
      refine go_iload_n (pc' := 16) dX0_isLeaf_15 rfl rfl ?_
      refine go_icmp_ne (t := 21) (pc' := 19) dX0_isLeaf_16 rfl rfl (fun c7 => ?_) (fun c7 => ?_)
      · rw [if_pos (show v3 ≠ x1 from c7)] at h
        obtain ⟨g5, h⟩ := gd h
        refine go_iinc (L' := [some (pvR 0 0 p), some (pvI x1), some (pvI (y1 + 1))]) (pc' := 24) dX0_isLeaf_21 rfl rfl g5 rfl ?_
        refine go_goto (t := 2) dX0_isLeaf_24 rfl ?_
        exact ih (y1 + 1) _ h
      · rw [if_neg (show ¬ (v3 ≠ x1) from c7)] at h
        refine go_iconst (pc' := 20) dX0_isLeaf_19 rfl (r32_c rfl) ?_
        obtain ⟨g6, h⟩ := gd h
        cases h
        exact go_zret dX0_isLeaf_20 rfl g6 rfl

set_option maxRecDepth 10000 in
theorem l_D_isLeaf (d : Nat) (n e : Nat) (σ : Hp) (p : Nat) (x1 : Int) (r : Int) (h : f_D_isLeaf σ p x1 = some r) : Ev (d + 3) 138 [pvR 0 0 p, pvI x1] (true, n, e, σ) (0, some (pvI r), true, n, e, σ) := by
  unfold f_D_isLeaf at h
  refine Ev.of mtE138 rfl rfl rfl rfl ?_
  show Go none (Ev (d + 2)) mt138 0 [some (pvR 0 0 p), some (pvI x1), none] [] (true, n, e, σ) (0, some (pvI r), true, n, e, σ)
  refine go_iconst (pc' := 1) dX0_isLeaf_0 rfl (r32_c rfl) ?_
  refine go_istore_n (L' := [some (pvR 0 0 p), some (pvI x1), some (pvI 1)]) (pc' := 2) dX0_isLeaf_1 rfl (Nat.le_of_ble_eq_true rfl) rfl ?_
  exact l_D_isLeaf_2 d n e σ p x1 zFuel 1 _ h

set_option maxRecDepth 10000 in
theorem l_D_isAsked (d : Nat) (n e : Nat) (σ : Hp) (p : Nat) (x1 : Int) (x2 : Int) (x3 : Int) (r : Int) (h : f_D_isAsked σ p x1 x2 x3 = some r) : Ev (d + 4) 137 [pvR 0 0 p, pvI x1, pvI x2, pvI x3] (true, n, e, σ) (0, some (pvI r), true, n, e, σ) := by
  unfold f_D_isAsked at h
  refine Ev.of mtE137 rfl rfl rfl rfl ?_
  show Go none (Ev (d + 3)) mt137 0 [some (pvR 0 0 p), some (pvI x1), some (pvI x2), some (pvI x3)] [] (true, n, e, σ) (0, some (pvI r), true, n, e, σ)
  refine go_iload_n (pc' := 1) dX0_isAsked_0 rfl rfl ?_
  refine go_if_ne (t := 20) (pc' := 4) dX0_isAsked_1 rfl rfl (fun c26 => ?_) (fun c26 => ?_)
  · rw [if_pos (show x1 ≠ 0 from c26)] at h
    refine go_iload_n (pc' := 21) dX0_isAsked_20 rfl rfl ?_
    refine go_iconst (pc' := 22) dX0_isAsked_21 rfl (r32_c rfl) ?_
    refine go_icmp_ne (t := 41) (pc' := 25) dX0_isAsked_22 rfl rfl (fun c20 => ?_) (fun c20 => ?_)
    · rw [if_pos (show x1 ≠ 2 from c20)] at h
      refine go_aload_n (pc' := 42) dX0_isAsked_41 rfl rfl (Nat.le_of_ble_eq_true rfl) ?_
      refine go_iload_n (pc' := 43) dX0_isAsked_42 rfl rfl ?_
      obtain ⟨v1, k2, h⟩ := bd h
      have k2 := l_D_has (d + 2) n e σ p x2 _ k2
      refine go_call (kc := 23) (Mc := mt23) (v := some (pvI v1)) (w' := (true, n, e, σ)) (pc' := 46) (st' := [pvI v1]) [pvR 0 0 p, pvI x2] [] (Or.inl rfl) dX0_isAsked_43 rfl rm_0_65 mtE23 rfl rfl rfl (Nat.le_of_ble_eq_true rfl) (Or.inr ⟨_, _, p, rfl, Or.inl rfl⟩) k2 rfl ?_
      obtain ⟨j3, k4, h⟩ := bd h
      have k4J : Go none (Ev (d + 3)) mt137 80 [some (pvR 0 0 p), some (pvI x1), some (pvI x2), some (pvI x3)] [pvI j3] (true, n, e, σ) (0, some (pvI r), true, n, e, σ) := by
        obtain ⟨g13, h⟩ := gd h
        cases h
        exact go_zret dX0_isAsked_80 rfl g13 rfl
      clear h
      have h := k4
      refine go_if_eq (t := 79) (pc' := 49) dX0_isAsked_46 rfl rfl (fun c14 => ?_) (fun c14 => ?_)
      · rw [if_pos (show v1 = 0 from c14)] at h
        refine go_iconst (pc' := 80) dX0_isAsked_79 rfl (r32_c rfl) ?_
        cases h
        exact k4J
      · rw [if_neg (show ¬ (v1 = 0) from c14)] at h
        refine go_aload_n (pc' := 50) dX0_isAsked_49 rfl rfl (Nat.le_of_ble_eq_true rfl) ?_
        refine go_iload_n (pc' := 51) dX0_isAsked_50 rfl rfl ?_
        obtain ⟨v5, k6, h⟩ := bd h
        have k6 := l_D_isLeaf (d + 0) n e σ p x3 _ k6
        refine go_call (kc := 138) (Mc := mt138) (v := some (pvI v5)) (w' := (true, n, e, σ)) (pc' := 54) (st' := [pvI v5]) [pvR 0 0 p, pvI x3] [] (Or.inl rfl) dX0_isAsked_51 rfl rm_0_121 mtE138 rfl rfl rfl (Nat.le_of_ble_eq_true rfl) (Or.inr ⟨_, _, p, rfl, Or.inl rfl⟩) k6 rfl ?_
        refine go_if_eq (t := 79) (pc' := 57) dX0_isAsked_54 rfl rfl (fun c12 => ?_) (fun c12 => ?_)
        · rw [if_pos (show v5 = 0 from c12)] at h
          refine go_iconst (pc' := 80) dX0_isAsked_79 rfl (r32_c rfl) ?_
          cases h
          exact k4J
        · rw [if_neg (show ¬ (v5 = 0) from c12)] at h
          refine go_aload_n (pc' := 58) dX0_isAsked_57 rfl rfl (Nat.le_of_ble_eq_true rfl) ?_
          refine go_getR (k' := 16) (L0 := 13) (P' := (p + 16)) (pc' := 61) dX0_isAsked_58 rfl rf_0_62 rfl rfl (by omega) ?_
          refine go_bipush (pc' := 63) dX0_isAsked_61 rfl (r32_c rfl) (by decide) ?_
          obtain ⟨g7, h⟩ := gd h
          refine go_rald (pc' := 64) dX0_isAsked_63 rfl g7 ?_
          refine go_iload_n (pc' := 65) dX0_isAsked_64 rfl rfl ?_
          refine go_bipush (pc' := 67) dX0_isAsked_65 rfl (r32_c rfl) (by decide) ?_
          obtain ⟨g8, h⟩ := gd h
          refine go_imul (pc' := 68) dX0_isAsked_67 rfl g8 ?_
          refine go_iload_n (pc' := 69) dX0_isAsked_68 rfl rfl ?_
          obtain ⟨g9, h⟩ := gd h
          refine go_iadd (pc' := 70) dX0_isAsked_69 rfl g9 ?_
          obtain ⟨g10, h⟩ := gd h
          refine go_iald (pc' := 71) dX0_isAsked_70 rfl g10 ?_
          refine go_iconst (pc' := 72) dX0_isAsked_71 rfl (r32_c rfl) ?_
          refine go_icmp_eq (t := 79) (pc' := 75) dX0_isAsked_72 rfl rfl (fun c11 => ?_) (fun c11 => ?_)
          · rw [if_pos (show (σ ((p + 16) + 1 + Int.toNat 12) ((x3 * 12) + x2)) = 2 from c11)] at h
            refine go_iconst (pc' := 80) dX0_isAsked_79 rfl (r32_c rfl) ?_
            cases h
            exact k4J
          · rw [if_neg (show ¬ ((σ ((p + 16) + 1 + Int.toNat 12) ((x3 * 12) + x2)) = 2) from c11)] at h
            refine go_iconst (pc' := 76) dX0_isAsked_75 rfl (r32_c rfl) ?_
            refine go_goto (t := 80) dX0_isAsked_76 rfl ?_
            cases h
            exact k4J
    · rw [if_neg (show ¬ (x1 ≠ 2) from c20)] at h
      refine go_aload_n (pc' := 26) dX0_isAsked_25 rfl rfl (Nat.le_of_ble_eq_true rfl) ?_
      refine go_getR (k' := 12) (L0 := 12) (P' := (p + 14)) (pc' := 29) dX0_isAsked_26 rfl rf_0_54 rfl rfl (by omega) ?_
      refine go_iload_n (pc' := 30) dX0_isAsked_29 rfl rfl ?_
      obtain ⟨g15, h⟩ := gd h
      refine go_iald (pc' := 31) dX0_isAsked_30 rfl g15 ?_
      refine go_iload_n (pc' := 32) dX0_isAsked_31 rfl rfl ?_
      obtain ⟨j16, k17, h⟩ := bd h
      have k17J : Go none (Ev (d + 3)) mt137 40 [some (pvR 0 0 p), some (pvI x1), some (pvI x2), some (pvI x3)] [pvI j16] (true, n, e, σ) (0, some (pvI r), true, n, e, σ) := by
        obtain ⟨g18, h⟩ := gd h
        cases h
        exact go_zret dX0_isAsked_40 rfl g18 rfl
      clear h
      have h := k17
      refine go_icmp_ne (t := 39) (pc' := 35) dX0_isAsked_32 rfl rfl (fun c19 => ?_) (fun c19 => ?_)
      · rw [if_pos (show (σ (p + 14) x3) ≠ x2 from c19)] at h
        refine go_iconst (pc' := 40) dX0_isAsked_39 rfl (r32_c rfl) ?_
        cases h
        exact k17J
      · rw [if_neg (show ¬ ((σ (p + 14) x3) ≠ x2) from c19)] at h
        refine go_iconst (pc' := 36) dX0_isAsked_35 rfl (r32_c rfl) ?_
        refine go_goto (t := 40) dX0_isAsked_36 rfl ?_
        cases h
        exact k17J
  · rw [if_neg (show ¬ (x1 ≠ 0) from c26)] at h
    refine go_aload_n (pc' := 5) dX0_isAsked_4 rfl rfl (Nat.le_of_ble_eq_true rfl) ?_
    refine go_getR (k' := 12) (L0 := 12) (P' := (p + 13)) (pc' := 8) dX0_isAsked_5 rfl rf_0_51 rfl rfl (by omega) ?_
    refine go_iload_n (pc' := 9) dX0_isAsked_8 rfl rfl ?_
    obtain ⟨g21, h⟩ := gd h
    refine go_iald (pc' := 10) dX0_isAsked_9 rfl g21 ?_
    refine go_iload_n (pc' := 11) dX0_isAsked_10 rfl rfl ?_
    obtain ⟨j22, k23, h⟩ := bd h
    have k23J : Go none (Ev (d + 3)) mt137 19 [some (pvR 0 0 p), some (pvI x1), some (pvI x2), some (pvI x3)] [pvI j22] (true, n, e, σ) (0, some (pvI r), true, n, e, σ) := by
      obtain ⟨g24, h⟩ := gd h
      cases h
      exact go_zret dX0_isAsked_19 rfl g24 rfl
    clear h
    have h := k23
    refine go_icmp_ne (t := 18) (pc' := 14) dX0_isAsked_11 rfl rfl (fun c25 => ?_) (fun c25 => ?_)
    · rw [if_pos (show (σ (p + 13) x3) ≠ x2 from c25)] at h
      refine go_iconst (pc' := 19) dX0_isAsked_18 rfl (r32_c rfl) ?_
      cases h
      exact k23J
    · rw [if_neg (show ¬ ((σ (p + 13) x3) ≠ x2) from c25)] at h
      refine go_iconst (pc' := 15) dX0_isAsked_14 rfl (r32_c rfl) ?_
      refine go_goto (t := 19) dX0_isAsked_15 rfl ?_
      cases h
      exact k23J

set_option maxRecDepth 10000 in
theorem l_D_pickAll_7 (d : Nat) (n : Nat) (e : Nat) (p : Nat) (x1 : Int) (x2 : Int) {out : Out} : ∀ (F : Nat) (y1 : Int) (σ2 : Hp) (j17 : Int × Hp), f_D_pickAll_7 p x1 x2 F y1 σ2 = some j17 → Go none (Ev (d + 4)) mt136 68 [some (pvR 0 0 p), some (pvI x1), some (pvI x2), some (pvI j17.1)] [] (true, n, e, j17.2) out → Go none (Ev (d + 4)) mt136 7 [some (pvR 0 0 p), some (pvI x1), some (pvI x2), some (pvI y1)] [] (true, n, e, σ2) out := by
  intro F
  induction F with
  | zero =>
    intro _ _ _ h
    intro _
    rw [f_D_pickAll_7] at h
    cases h
  | succ F ih =>
    intro y1 σ2 j17 h hx
    rw [f_D_pickAll_7] at h
    refine go_iload_n (pc' := 8) dX0_pickAll_7 rfl rfl ?_
    refine go_aload_n (pc' := 9) dX0_pickAll_8 rfl rfl (Nat.le_of_ble_eq_true rfl) ?_
    refine go_getI (pc' := 12) dX0_pickAll_9 rfl rf_0_9 rfl ?_
    refine go_icmp_ge (t := 68) (pc' := 15) dX0_pickAll_12 rfl rfl (fun c16 => ?_) (fun c16 => ?_)
    · rw [if_pos (show (σ2 p 0) ≤ y1 from c16)] at h
      cases h
      exact hx
    · rw [if_neg (show ¬ ((σ2 p 0) ≤ y1) from c16)] at h
      refine go_aload_n (pc' := 16) dX0_pickAll_15 rfl rfl (Nat.le_of_ble_eq_true rfl) ?_
      refine go_getR (k' := 14) (L0 := 12) (P' := (p + 15)) (pc' := 19) dX0_pickAll_16 rfl rf_0_57 rfl rfl (by omega) ?_
      refine go_iload_n (pc' := 20) dX0_pickAll_19 rfl rfl ?_
      obtain ⟨g3, h⟩ := gd h
      refine go_zald (pc' := 21) dX0_pickAll_20 rfl g3 ?_
      obtain ⟨j4, k5, h⟩ := bd h
      have k5J : Go none (Ev (d + 4)) mt136 62 [some (pvR 0 0 p), some (pvI x1), some (pvI x2), some (pvI y1)] [] (true, n, e, j4) out := by
        obtain ⟨g14, h⟩ := gd h
        refine go_iinc (L' := [some (pvR 0 0 p), some (pvI x1), some (pvI x2), some (pvI (y1 + 1))]) (pc' := 65) dX0_pickAll_62 rfl rfl g14 rfl ?_
        refine go_goto (t := 7) dX0_pickAll_65 rfl ?_
        exact ih (y1 + 1) j4 _ h hx
      clear h
      have h := k5
      refine go_if_eq (t := 62) (pc' := 24) dX0_pickAll_21 rfl rfl (fun c15 => ?_) (fun c15 => ?_)
      · rw [if_pos (show (σ2 (p + 15) y1) = 0 from c15)] at h
        cases h
        exact k5J
      · rw [if_neg (show ¬ ((σ2 (p + 15) y1) = 0) from c15)] at h
        refine go_aload_n (pc' := 25) dX0_pickAll_24 rfl rfl (Nat.le_of_ble_eq_true rfl) ?_
        refine go_iload_n (pc' := 26) dX0_pickAll_25 rfl rfl ?_
        obtain ⟨v6, k7, h⟩ := bd h
        have k7 := l_D_isPlain (d + 2) n e σ2 p y1 _ k7
        refine go_call (kc := 25) (Mc := mt25) (v := some (pvI v6)) (w' := (true, n, e, σ2)) (pc' := 29) (st' := [pvI v6]) [pvR 0 0 p, pvI y1] [] (Or.inl rfl) dX0_pickAll_26 rfl rm_0_69 mtE25 rfl rfl rfl (Nat.le_of_ble_eq_true rfl) (Or.inr ⟨_, _, p, rfl, Or.inl rfl⟩) k7 rfl ?_
        refine go_if_eq (t := 62) (pc' := 32) dX0_pickAll_29 rfl rfl (fun c13 => ?_) (fun c13 => ?_)
        · rw [if_pos (show v6 = 0 from c13)] at h
          cases h
          exact k5J
        · rw [if_neg (show ¬ (v6 = 0) from c13)] at h
          refine go_aload_n (pc' := 33) dX0_pickAll_32 rfl rfl (Nat.le_of_ble_eq_true rfl) ?_
          refine go_iload_n (pc' := 34) dX0_pickAll_33 rfl rfl ?_
          refine go_iload_n (pc' := 35) dX0_pickAll_34 rfl rfl ?_
          refine go_iload_n (pc' := 36) dX0_pickAll_35 rfl rfl ?_
          obtain ⟨v8, k9, h⟩ := bd h
          have k9 := l_D_isAsked (d + 0) n e σ2 p x1 x2 y1 _ k9
          refine go_call (kc := 137) (Mc := mt137) (v := some (pvI v8)) (w' := (true, n, e, σ2)) (pc' := 39) (st' := [pvI v8]) [pvR 0 0 p, pvI x1, pvI x2, pvI y1] [] (Or.inl rfl) dX0_pickAll_36 rfl rm_0_117 mtE137 rfl rfl rfl (Nat.le_of_ble_eq_true rfl) (Or.inr ⟨_, _, p, rfl, Or.inl rfl⟩) k9 rfl ?_
          refine go_if_eq (t := 62) (pc' := 42) dX0_pickAll_39 rfl rfl (fun c12 => ?_) (fun c12 => ?_)
          · rw [if_pos (show v8 = 0 from c12)] at h
            cases h
            exact k5J
          · rw [if_neg (show ¬ (v8 = 0) from c12)] at h
            refine go_aload_n (pc' := 43) dX0_pickAll_42 rfl rfl (Nat.le_of_ble_eq_true rfl) ?_
            refine go_getR (k' := 12) (L0 := 12) (P' := (p + 12)) (pc' := 46) dX0_pickAll_43 rfl rf_0_48 rfl rfl (by omega) ?_
            refine go_aload_n (pc' := 47) dX0_pickAll_46 rfl rfl (Nat.le_of_ble_eq_true rfl) ?_
            refine go_getI (pc' := 50) dX0_pickAll_47 rfl rf_0_114 rfl ?_
            refine go_iload_n (pc' := 51) dX0_pickAll_50 rfl rfl ?_
            obtain ⟨g10, h⟩ := gd h
            refine go_iast (pc' := 52) dX0_pickAll_51 rfl g10 ?_
            refine go_aload_n (pc' := 53) dX0_pickAll_52 rfl rfl (Nat.le_of_ble_eq_true rfl) ?_
            refine go_dup (pc' := 54) dX0_pickAll_53 rfl (Nat.ne_of_beq_eq_false rfl) ?_
            refine go_getI (pc' := 57) dX0_pickAll_54 rfl rf_0_114 rfl ?_
            refine go_iconst (pc' := 58) dX0_pickAll_57 rfl (r32_c rfl) ?_
            obtain ⟨g11, h⟩ := gd h
            refine go_iadd (pc' := 59) dX0_pickAll_58 rfl g11 ?_
            refine go_putI (pc' := 62) dX0_pickAll_59 rfl rf_0_114 rfl ?_
            cases h
            exact k5J

set_option maxRecDepth 10000 in
theorem l_D_pickAll (d : Nat) (n e : Nat) (σ : Hp) (p : Nat) (x1 : Int) (x2 : Int) (r : Hp) (h : f_D_pickAll σ p x1 x2 = some r) : Ev (d + 5) 136 [pvR 0 0 p, pvI x1, pvI x2] (true, n, e, σ) (0, none, true, n, e, r) := by
  unfold f_D_pickAll at h
  refine Ev.of mtE136 rfl rfl rfl rfl ?_
  show Go none (Ev (d + 4)) mt136 0 [some (pvR 0 0 p), some (pvI x1), some (pvI x2), none] [] (true, n, e, σ) (0, none, true, n, e, r)
  refine go_aload_n (pc' := 1) dX0_pickAll_0 rfl rfl (Nat.le_of_ble_eq_true rfl) ?_
  refine go_iconst (pc' := 2) dX0_pickAll_1 rfl (r32_c rfl) ?_
  refine go_putI (pc' := 5) dX0_pickAll_2 rfl rf_0_114 rfl ?_
  refine go_iconst (pc' := 6) dX0_pickAll_5 rfl (r32_c rfl) ?_
  refine go_istore_n (L' := [some (pvR 0 0 p), some (pvI x1), some (pvI x2), some (pvI 0)]) (pc' := 7) dX0_pickAll_6 rfl (Nat.le_of_ble_eq_true rfl) rfl ?_
  obtain ⟨j18, k19, h⟩ := bd h
  refine l_D_pickAll_7 d n e p x1 x2 zFuel 0 (hset σ p 2 0) _ k19 ?_
  cases h
  exact go_vret dX0_pickAll_68 rfl rfl

set_option maxRecDepth 10000 in
theorem l_D_pickedAt (d : Nat) (n e : Nat) (σ : Hp) (p : Nat) (x1 : Int) (r : Int) (h : f_D_pickedAt σ p x1 = some r) : Ev (d + 1) 140 [pvR 0 0 p, pvI x1] (true, n, e, σ) (0, some (pvI r), true, n, e, σ) := by
  unfold f_D_pickedAt at h
  refine Ev.of mtE140 rfl rfl rfl rfl ?_
  show Go none (Ev (d + 0)) mt140 0 [some (pvR 0 0 p), some (pvI x1)] [] (true, n, e, σ) (0, some (pvI r), true, n, e, σ)
  refine go_iload_n (pc' := 1) dX0_pickedAt_0 rfl rfl ?_
  obtain ⟨j1, k2, h⟩ := bd h
  have k2J : Go none (Ev (d + 0)) mt140 28 [some (pvR 0 0 p), some (pvI x1)] [pvI j1] (true, n, e, σ) (0, some (pvI r), true, n, e, σ) := by
    cases h
    exact go_iret dX0_pickedAt_28 rfl rfl
  clear h
  have h := k2
  refine go_if_lt (t := 27) (pc' := 4) dX0_pickedAt_1 rfl rfl (fun c6 => ?_) (fun c6 => ?_)
  · rw [if_pos (show x1 < 0 from c6)] at h
    refine go_iconst (pc' := 28) dX0_pickedAt_27 rfl (r32_c rfl) ?_
    cases h
    exact k2J
  · rw [if_neg (show ¬ (x1 < 0) from c6)] at h
    refine go_iload_n (pc' := 5) dX0_pickedAt_4 rfl rfl ?_
    refine go_aload_n (pc' := 6) dX0_pickedAt_5 rfl rfl (Nat.le_of_ble_eq_true rfl) ?_
    refine go_getI (pc' := 9) dX0_pickedAt_6 rfl rf_0_114 rfl ?_
    refine go_icmp_ge (t := 27) (pc' := 12) dX0_pickedAt_9 rfl rfl (fun c5 => ?_) (fun c5 => ?_)
    · rw [if_pos (show (σ p 2) ≤ x1 from c5)] at h
      refine go_iconst (pc' := 28) dX0_pickedAt_27 rfl (r32_c rfl) ?_
      cases h
      exact k2J
    · rw [if_neg (show ¬ ((σ p 2) ≤ x1) from c5)] at h
      refine go_iload_n (pc' := 13) dX0_pickedAt_12 rfl rfl ?_
      refine go_bipush (pc' := 15) dX0_pickedAt_13 rfl (r32_c rfl) (by decide) ?_
      refine go_icmp_ge (t := 27) (pc' := 18) dX0_pickedAt_15 rfl rfl (fun c4 => ?_) (fun c4 => ?_)
      · rw [if_pos (show 12 ≤ x1 from c4)] at h
        refine go_iconst (pc' := 28) dX0_pickedAt_27 rfl (r32_c rfl) ?_
        cases h
        exact k2J
      · rw [if_neg (show ¬ (12 ≤ x1) from c4)] at h
        refine go_aload_n (pc' := 19) dX0_pickedAt_18 rfl rfl (Nat.le_of_ble_eq_true rfl) ?_
        refine go_getR (k' := 12) (L0 := 12) (P' := (p + 12)) (pc' := 22) dX0_pickedAt_19 rfl rf_0_48 rfl rfl (by omega) ?_
        refine go_iload_n (pc' := 23) dX0_pickedAt_22 rfl rfl ?_
        obtain ⟨g3, h⟩ := gd h
        refine go_iald (pc' := 24) dX0_pickedAt_23 rfl g3 ?_
        refine go_goto (t := 28) dX0_pickedAt_24 rfl ?_
        cases h
        exact k2J

set_option maxRecDepth 10000 in
theorem l_S_chosenCell (d : Nat) (n e : Nat) (σ : Hp) (r : Int) (h : f_S_chosenCell σ = some r) : Ev (d + 1) 141 [pvR 7 0 1] (true, n, e, σ) (0, some (pvI r), true, n, e, σ) := by
  unfold f_S_chosenCell at h
  refine Ev.of mtE141 rfl rfl rfl rfl ?_
  show Go none (Ev (d + 0)) mt141 0 [some (pvR 7 0 1)] [] (true, n, e, σ) (0, some (pvI r), true, n, e, σ)
  refine go_aload_n (pc' := 1) dX7_chosenCell_0 rfl rfl (Nat.le_of_ble_eq_true rfl) ?_
  refine go_getR (k' := 0) (L0 := 0) (P' := 2) (pc' := 4) dX7_chosenCell_1 rfl rf_7_12 rfl rfl (by omega) ?_
  refine go_getI (pc' := 7) dX7_chosenCell_4 rfl rf_7_67 rfl ?_
  refine go_sipush (pc' := 10) dX7_chosenCell_7 rfl (r32_c rfl) (by decide) ?_
  obtain ⟨g1, h⟩ := gd h
  refine go_imul (pc' := 11) dX7_chosenCell_10 rfl g1 ?_
  refine go_aload_n (pc' := 12) dX7_chosenCell_11 rfl rfl (Nat.le_of_ble_eq_true rfl) ?_
  refine go_getR (k' := 0) (L0 := 0) (P' := 32) (pc' := 15) dX7_chosenCell_12 rfl rf_7_18 rfl rfl (by omega) ?_
  refine go_getI (pc' := 18) dX7_chosenCell_15 rfl rf_7_67 rfl ?_
  refine go_bipush (pc' := 20) dX7_chosenCell_18 rfl (r32_c rfl) (by decide) ?_
  obtain ⟨g2, h⟩ := gd h
  refine go_imul (pc' := 21) dX7_chosenCell_20 rfl g2 ?_
  obtain ⟨g3, h⟩ := gd h
  refine go_iadd (pc' := 22) dX7_chosenCell_21 rfl g3 ?_
  refine go_aload_n (pc' := 23) dX7_chosenCell_22 rfl rfl (Nat.le_of_ble_eq_true rfl) ?_
  refine go_getR (k' := 0) (L0 := 0) (P' := 62) (pc' := 26) dX7_chosenCell_23 rfl rf_7_21 rfl rfl (by omega) ?_
  refine go_getI (pc' := 29) dX7_chosenCell_26 rfl rf_7_67 rfl ?_
  obtain ⟨g4, h⟩ := gd h
  refine go_iadd (pc' := 30) dX7_chosenCell_29 rfl g4 ?_
  cases h
  exact go_iret dX7_chosenCell_30 rfl rfl

set_option maxRecDepth 10000 in
theorem l_R_rank_3 (d : Nat) (n : Nat) (e : Nat) (p1 : Nat) (x2 : Int) (x3 : Int) (x4 : Int) {out : Out} : ∀ (F : Nat) (y1 : Int) (σ2 : Hp) (j14 : Int × Hp), f_R_rank_3 p1 x4 F y1 σ2 = some j14 → Go none (Ev (d + 0)) mt142 61 [some (pvR 6 0 116), some (pvR 0 0 p1), some (pvI x2), some (pvI x3), some (pvL x4), none, some (pvI j14.1)] [] (true, n, e, j14.2) out → Go none (Ev (d + 0)) mt142 3 [some (pvR 6 0 116), some (pvR 0 0 p1), some (pvI x2), some (pvI x3), some (pvL x4), none, some (pvI y1)] [] (true, n, e, σ2) out := by
  intro F
  induction F with
  | zero =>
    intro _ _ _ h
    intro _
    rw [f_R_rank_3] at h
    cases h
  | succ F ih =>
    intro y1 σ2 j14 h hx
    rw [f_R_rank_3] at h
    refine go_iload (pc' := 5) dX6_rank_3 rfl rfl ?_
    refine go_if_le (t := 61) (pc' := 8) dX6_rank_5 rfl rfl (fun c13 => ?_) (fun c13 => ?_)
    · rw [if_pos (show y1 ≤ 0 from c13)] at h
      cases h
      exact hx
    · rw [if_neg (show ¬ (y1 ≤ 0) from c13)] at h
      refine go_aload_n (pc' := 9) dX6_rank_8 rfl rfl (Nat.le_of_ble_eq_true rfl) ?_
      refine go_getR (k' := 13) (L0 := 12) (P' := 124) (pc' := 12) dX6_rank_9 rfl rf_6_34 rfl rfl (by omega) ?_
      refine go_iload (pc' := 14) dX6_rank_12 rfl rfl ?_
      refine go_iconst (pc' := 15) dX6_rank_14 rfl (r32_c rfl) ?_
      obtain ⟨g3, h⟩ := gd h
      refine go_isub (pc' := 16) dX6_rank_15 rfl g3 ?_
      obtain ⟨g4, h⟩ := gd h
      refine go_lald (pc' := 17) dX6_rank_16 rfl g4 ?_
      refine go_lload (pc' := 19) dX6_rank_17 rfl rfl ?_
      refine go_lcmp (pc' := 20) dX6_rank_19 rfl ?_
      refine go_if_ge (t := 61) (pc' := 23) dX6_rank_20 rfl rfl (fun c12 => ?_) (fun c12 => ?_)
      · rw [if_pos (show 0 ≤ (lcm (σ2 124 (y1 - 1)) x4) from c12)] at h
        cases h
        exact hx
      · rw [if_neg (show ¬ (0 ≤ (lcm (σ2 124 (y1 - 1)) x4)) from c12)] at h
        refine go_aload_n (pc' := 24) dX6_rank_23 rfl rfl (Nat.le_of_ble_eq_true rfl) ?_
        refine go_getR (k' := 13) (L0 := 12) (P' := 124) (pc' := 27) dX6_rank_24 rfl rf_6_34 rfl rfl (by omega) ?_
        refine go_iload (pc' := 29) dX6_rank_27 rfl rfl ?_
        refine go_aload_n (pc' := 30) dX6_rank_29 rfl rfl (Nat.le_of_ble_eq_true rfl) ?_
        refine go_getR (k' := 13) (L0 := 12) (P' := 124) (pc' := 33) dX6_rank_30 rfl rf_6_34 rfl rfl (by omega) ?_
        refine go_iload (pc' := 35) dX6_rank_33 rfl rfl ?_
        refine go_iconst (pc' := 36) dX6_rank_35 rfl (r32_c rfl) ?_
        obtain ⟨g5, h⟩ := gd h
        refine go_isub (pc' := 37) dX6_rank_36 rfl g5 ?_
        obtain ⟨g6, h⟩ := gd h
        refine go_lald (pc' := 38) dX6_rank_37 rfl g6 ?_
        obtain ⟨g7, h⟩ := gd h
        refine go_last (pc' := 39) dX6_rank_38 rfl g7 ?_
        refine go_aload_n (pc' := 40) dX6_rank_39 rfl rfl (Nat.le_of_ble_eq_true rfl) ?_
        refine go_getR (k' := 12) (L0 := 12) (P' := (p1 + 12)) (pc' := 43) dX6_rank_40 rfl rf_6_253 rfl rfl (by omega) ?_
        refine go_iload (pc' := 45) dX6_rank_43 rfl rfl ?_
        refine go_aload_n (pc' := 46) dX6_rank_45 rfl rfl (Nat.le_of_ble_eq_true rfl) ?_
        refine go_getR (k' := 12) (L0 := 12) (P' := (p1 + 12)) (pc' := 49) dX6_rank_46 rfl rf_6_253 rfl rfl (by omega) ?_
        refine go_iload (pc' := 51) dX6_rank_49 rfl rfl ?_
        refine go_iconst (pc' := 52) dX6_rank_51 rfl (r32_c rfl) ?_
        obtain ⟨g8, h⟩ := gd h
        refine go_isub (pc' := 53) dX6_rank_52 rfl g8 ?_
        obtain ⟨g9, h⟩ := gd h
        refine go_iald (pc' := 54) dX6_rank_53 rfl g9 ?_
        obtain ⟨g10, h⟩ := gd h
        refine go_iast (pc' := 55) dX6_rank_54 rfl g10 ?_
        obtain ⟨g11, h⟩ := gd h
        refine go_iinc (L' := [some (pvR 6 0 116), some (pvR 0 0 p1), some (pvI x2), some (pvI x3), some (pvL x4), none, some (pvI (y1 + (-1)))]) (pc' := 58) dX6_rank_55 rfl rfl g11 rfl ?_
        refine go_goto (t := 3) dX6_rank_58 rfl ?_
        exact ih (y1 + (-1)) (hset (hset σ2 124 y1 (σ2 124 (y1 - 1))) (p1 + 12) y1 ((hset σ2 124 y1 (σ2 124 (y1 - 1))) (p1 + 12) (y1 - 1))) _ h hx

set_option maxRecDepth 10000 in
theorem l_R_rank (d : Nat) (n e : Nat) (σ : Hp) (p1 : Nat) (x2 : Int) (x3 : Int) (x4 : Int) (r : Hp) (h : f_R_rank σ p1 x2 x3 x4 = some r) : Ev (d + 1) 142 [pvR 6 0 116, pvR 0 0 p1, pvI x2, pvI x3, pvL x4] (true, n, e, σ) (0, none, true, n, e, r) := by
  unfold f_R_rank at h
  refine Ev.of mtE142 rfl rfl rfl rfl ?_
  show Go none (Ev (d + 0)) mt142 0 [some (pvR 6 0 116), some (pvR 0 0 p1), some (pvI x2), some (pvI x3), some (pvL x4), none, none] [] (true, n, e, σ) (0, none, true, n, e, r)
  refine go_iload_n (pc' := 1) dX6_rank_0 rfl rfl ?_
  refine go_istore (L' := [some (pvR 6 0 116), some (pvR 0 0 p1), some (pvI x2), some (pvI x3), some (pvL x4), none, some (pvI x2)]) (pc' := 3) dX6_rank_1 rfl (Nat.le_of_ble_eq_true rfl) rfl ?_
  obtain ⟨j15, k16, h⟩ := bd h
  refine l_R_rank_3 d n e p1 x2 x3 x4 zFuel x2 σ _ k16 ?_
  refine go_aload_n (pc' := 62) dX6_rank_61 rfl rfl (Nat.le_of_ble_eq_true rfl) ?_
  refine go_getR (k' := 13) (L0 := 12) (P' := 124) (pc' := 65) dX6_rank_62 rfl rf_6_34 rfl rfl (by omega) ?_
  refine go_iload (pc' := 67) dX6_rank_65 rfl rfl ?_
  refine go_lload (pc' := 69) dX6_rank_67 rfl rfl ?_
  obtain ⟨g17, h⟩ := gd h
  refine go_last (pc' := 70) dX6_rank_69 rfl g17 ?_
  refine go_aload_n (pc' := 71) dX6_rank_70 rfl rfl (Nat.le_of_ble_eq_true rfl) ?_
  refine go_getR (k' := 12) (L0 := 12) (P' := (p1 + 12)) (pc' := 74) dX6_rank_71 rfl rf_6_253 rfl rfl (by omega) ?_
  refine go_iload (pc' := 76) dX6_rank_74 rfl rfl ?_
  refine go_iload_n (pc' := 77) dX6_rank_76 rfl rfl ?_
  obtain ⟨g18, h⟩ := gd h
  refine go_iast (pc' := 78) dX6_rank_77 rfl g18 ?_
  cases h
  exact go_vret dX6_rank_78 rfl rfl

set_option maxRecDepth 10000 in
theorem l_R_keepTop_21 (d : Nat) (n : Nat) (e : Nat) (σ : Hp) (x1 : Int) (x2 : Int) (v1 : Nat) {out : Out} : ∀ (F : Nat) (y3 : Int) (y4 : Int) (σ5 : Hp) (j28 : Int × Int × Hp), f_R_keepTop_21 σ x1 v1 F y3 y4 σ5 = some j28 → Go none (Ev (d + 240)) mt139 114 [some (pvR 6 0 116), some (pvI x1), some (pvI x2), some (pvR 0 0 v1), some (pvI (σ v1 2)), some (pvI j28.1), some (pvI j28.2.1), none, none, none, none] [] (true, n, e, j28.2.2) out → Go none (Ev (d + 240)) mt139 21 [some (pvR 6 0 116), some (pvI x1), some (pvI x2), some (pvR 0 0 v1), some (pvI (σ v1 2)), some (pvI y3), some (pvI y4), none, none, none, none] [] (true, n, e, σ5) out := by
  intro F
  induction F with
  | zero =>
    intro _ _ _ _ h
    intro _
    rw [f_R_keepTop_21] at h
    cases h
  | succ F ih =>
    intro y3 y4 σ5 j28 h hx
    rw [f_R_keepTop_21] at h
    refine go_iload (pc' := 23) dX6_keepTop_21 rfl rfl ?_
    refine go_iload (pc' := 25) dX6_keepTop_23 rfl rfl ?_
    refine go_icmp_ge (t := 114) (pc' := 28) dX6_keepTop_25 rfl rfl (fun c27 => ?_) (fun c27 => ?_)
    · rw [if_pos (show (σ v1 2) ≤ y4 from c27)] at h
      cases h
      exact hx
    · rw [if_neg (show ¬ ((σ v1 2) ≤ y4) from c27)] at h
      refine go_iload (pc' := 30) dX6_keepTop_28 rfl rfl ?_
      refine go_bipush (pc' := 32) dX6_keepTop_30 rfl (r32_c rfl) (by decide) ?_
      refine go_icmp_ge (t := 114) (pc' := 35) dX6_keepTop_32 rfl rfl (fun c26 => ?_) (fun c26 => ?_)
      · rw [if_pos (show 12 ≤ y3 from c26)] at h
        cases h
        exact hx
      · rw [if_neg (show ¬ (12 ≤ y3) from c26)] at h
        refine go_aload_n (pc' := 36) dX6_keepTop_35 rfl rfl (Nat.le_of_ble_eq_true rfl) ?_
        refine go_iload (pc' := 38) dX6_keepTop_36 rfl rfl ?_
        obtain ⟨v6, k7, h⟩ := bd h
        have k7 := l_D_pickedAt (d + 239) n e σ5 v1 y4 _ k7
        refine go_call (kc := 140) (Mc := mt140) (v := some (pvI v6)) (w' := (true, n, e, σ5)) (pc' := 41) (st' := [pvI v6]) [pvR 0 0 v1, pvI y4] [] (Or.inl rfl) dX6_keepTop_38 rfl rm_6_240 mtE140 rfl rfl rfl (Nat.le_of_ble_eq_true rfl) (Or.inr ⟨_, _, v1, rfl, Or.inl rfl⟩) k7 rfl ?_
        refine go_istore (L' := [some (pvR 6 0 116), some (pvI x1), some (pvI x2), some (pvR 0 0 v1), some (pvI (σ v1 2)), some (pvI y3), some (pvI y4), some (pvI v6), none, none, none]) (pc' := 43) dX6_keepTop_41 rfl (Nat.le_of_ble_eq_true rfl) rfl ?_
        refine go_aload_n (pc' := 44) dX6_keepTop_43 rfl rfl (Nat.le_of_ble_eq_true rfl) ?_
        refine go_getR (k' := 7) (L0 := 0) (P' := 1) (pc' := 47) dX6_keepTop_44 rfl rf_6_37 rfl rfl (by omega) ?_
        obtain ⟨v8, k9, h⟩ := bd h
        have k9 := l_S_chosenCell (d + 239) n e σ5 _ k9
        refine go_call (kc := 141) (Mc := mt141) (v := some (pvI v8)) (w' := (true, n, e, σ5)) (pc' := 50) (st' := [pvI v8]) [pvR 7 0 1] [] (Or.inl rfl) dX6_keepTop_47 rfl rm_6_243 mtE141 rfl rfl rfl (Nat.le_of_ble_eq_true rfl) (Or.inr ⟨_, _, 1, rfl, Or.inl rfl⟩) k9 rfl ?_
        refine go_iload_n (pc' := 51) dX6_keepTop_50 rfl rfl ?_
        refine go_iload (pc' := 53) dX6_keepTop_51 rfl rfl ?_
        obtain ⟨v10, k11, h⟩ := bd h
        have k11 := l_C_withMember (d + 238) n e σ5 v8 x1 v6 _ k11
        refine go_call (kc := 122) (Mc := mt122) (v := some (pvI v10)) (w' := (true, n, e, σ5)) (pc' := 56) (st' := [pvI v10]) [pvI v8, pvI x1, pvI v6] [] (Or.inr (Or.inr (Or.inr (Or.inl rfl)))) dX6_keepTop_53 rfl rm_6_105 mtE122 rfl rfl rfl (Nat.le_of_ble_eq_true rfl) (Or.inl (by decide)) k11 rfl ?_
        refine go_istore (L' := [some (pvR 6 0 116), some (pvI x1), some (pvI x2), some (pvR 0 0 v1), some (pvI (σ v1 2)), some (pvI y3), some (pvI y4), some (pvI v6), some (pvI v10), none, none]) (pc' := 58) dX6_keepTop_56 rfl (Nat.le_of_ble_eq_true rfl) rfl ?_
        refine go_aload_n (pc' := 59) dX6_keepTop_58 rfl rfl (Nat.le_of_ble_eq_true rfl) ?_
        refine go_getR (k' := 7) (L0 := 0) (P' := 1) (pc' := 62) dX6_keepTop_59 rfl rf_6_37 rfl rfl (by omega) ?_
        refine go_iload (pc' := 64) dX6_keepTop_62 rfl rfl ?_
        obtain ⟨v12, k13, h⟩ := bd h
        have k13 := l_S_isSeen (d + 238) n e σ5 v10 _ k13
        refine go_call (kc := 92) (Mc := mt92) (v := some (pvI v12)) (w' := (true, n, e, σ5)) (pc' := 67) (st' := [pvI v12]) [pvR 7 0 1, pvI v10] [] (Or.inl rfl) dX6_keepTop_64 rfl rm_6_56 mtE92 rfl rfl rfl (Nat.le_of_ble_eq_true rfl) (Or.inr ⟨_, _, 1, rfl, Or.inl rfl⟩) k13 rfl ?_
        obtain ⟨j14, k15, h⟩ := bd h
        have k15J : Go none (Ev (d + 240)) mt139 83 [some (pvR 6 0 116), some (pvI x1), some (pvI x2), some (pvR 0 0 v1), some (pvI (σ v1 2)), some (pvI y3), some (pvI y4), some (pvI v6), some (pvI v10), none, none] [pvL j14.1] (true, n, e, j14.2) out := by
          refine go_lstore (L' := [some (pvR 6 0 116), some (pvI x1), some (pvI x2), some (pvR 0 0 v1), some (pvI (σ v1 2)), some (pvI y3), some (pvI y4), some (pvI v6), some (pvI v10), some (pvL j14.1), none]) (pc' := 85) dX6_keepTop_83 rfl (Nat.le_of_ble_eq_true rfl) rfl ?_
          refine go_lload (pc' := 87) dX6_keepTop_85 rfl rfl ?_
          refine go_ldc2 (pc' := 90) dX6_keepTop_87 rfl (r64_c rfl) rc_6_66 ?_
          refine go_lcmp (pc' := 91) dX6_keepTop_90 rfl ?_
          obtain ⟨j18, k19, h⟩ := bd h
          have k19J : Go none (Ev (d + 240)) mt139 108 [some (pvR 6 0 116), some (pvI x1), some (pvI x2), some (pvR 0 0 v1), some (pvI (σ v1 2)), some (pvI j18.1), some (pvI y4), some (pvI v6), some (pvI v10), some (pvL j14.1), none] [] (true, n, e, j18.2) out := by
            obtain ⟨g23, h⟩ := gd h
            refine go_iinc (L' := [some (pvR 6 0 116), some (pvI x1), some (pvI x2), some (pvR 0 0 v1), some (pvI (σ v1 2)), some (pvI j18.1), some (pvI (y4 + 1)), some (pvI v6), some (pvI v10), some (pvL j14.1), none]) (pc' := 111) dX6_keepTop_108 rfl rfl g23 rfl ?_
            refine go_goto (t := 21) dX6_keepTop_111 rfl ?_
            exact go_sub (ih j18.1 (y4 + 1) j18.2 _ h hx) ⟨Or.inr rfl, Or.inr rfl, Or.inr rfl, Or.inr rfl, Or.inr rfl, Or.inr rfl, Or.inr rfl, Or.inl rfl, Or.inl rfl, Or.inl rfl, Or.inr rfl, trivial⟩
          clear h
          have h := k19
          refine go_if_eq (t := 108) (pc' := 94) dX6_keepTop_91 rfl rfl (fun c24 => ?_) (fun c24 => ?_)
          · rw [if_pos (show (lcm j14.1 (-9223372036854775808)) = 0 from c24)] at h
            cases h
            exact k19J
          · rw [if_neg (show ¬ ((lcm j14.1 (-9223372036854775808)) = 0) from c24)] at h
            refine go_aload_n (pc' := 95) dX6_keepTop_94 rfl rfl (Nat.le_of_ble_eq_true rfl) ?_
            refine go_aload_n (pc' := 96) dX6_keepTop_95 rfl rfl (Nat.le_of_ble_eq_true rfl) ?_
            refine go_iload (pc' := 98) dX6_keepTop_96 rfl rfl ?_
            refine go_iload (pc' := 100) dX6_keepTop_98 rfl rfl ?_
            refine go_lload (pc' := 102) dX6_keepTop_100 rfl rfl ?_
            obtain ⟨v20, k21, h⟩ := bd h
            have k21 := l_R_rank (d + 239) n e j14.2 v1 y3 v6 j14.1 _ k21
            refine go_call (kc := 142) (Mc := mt142) (v := none) (w' := (true, n, e, v20)) (pc' := 105) (st' := []) [pvR 6 0 116, pvR 0 0 v1, pvI y3, pvI v6, pvL j14.1] [] (Or.inl rfl) dX6_keepTop_102 rfl rm_6_246 mtE142 rfl rfl rfl (Nat.le_of_ble_eq_true rfl) (Or.inr ⟨_, _, 116, rfl, Or.inl rfl⟩) k21 rfl ?_
            obtain ⟨g22, h⟩ := gd h
            refine go_iinc (L' := [some (pvR 6 0 116), some (pvI x1), some (pvI x2), some (pvR 0 0 v1), some (pvI (σ v1 2)), some (pvI (y3 + 1)), some (pvI y4), some (pvI v6), some (pvI v10), some (pvL j14.1), none]) (pc' := 108) dX6_keepTop_105 rfl rfl g22 rfl ?_
            cases h
            exact k19J
        clear h
        have h := k15
        refine go_if_eq (t := 80) (pc' := 70) dX6_keepTop_67 rfl rfl (fun c25 => ?_) (fun c25 => ?_)
        · rw [if_pos (show v12 = 0 from c25)] at h
          refine go_ldc2 (pc' := 83) dX6_keepTop_80 rfl (r64_c rfl) rc_6_66 ?_
          cases h
          exact k15J
        · rw [if_neg (show ¬ (v12 = 0) from c25)] at h
          refine go_aload_n (pc' := 71) dX6_keepTop_70 rfl rfl (Nat.le_of_ble_eq_true rfl) ?_
          refine go_iload (pc' := 73) dX6_keepTop_71 rfl rfl ?_
          refine go_iconst (pc' := 74) dX6_keepTop_73 rfl (r32_c rfl) ?_
          obtain ⟨v16, k17, h⟩ := bd h
          have k17 := l_R_valueOf zDeep (d + 0) n e σ5 v10 0 _ k17
          refine go_call (kc := 110) (Mc := mt110) (v := some (pvL v16.1)) (w' := (true, n, e, v16.2)) (pc' := 77) (st' := [pvL v16.1]) [pvR 6 0 116, pvI v10, pvI 0] [] (Or.inl rfl) dX6_keepTop_74 rfl rm_6_62 mtE110 rfl rfl rfl (Nat.le_of_ble_eq_true rfl) (Or.inr ⟨_, _, 116, rfl, Or.inl rfl⟩) k17 rfl ?_
          refine go_goto (t := 83) dX6_keepTop_77 rfl ?_
          cases h
          exact k15J

set_option maxRecDepth 10000 in
theorem l_R_keepTop (d : Nat) (n e : Nat) (σ : Hp) (x1 : Int) (x2 : Int) (r : Hp) (h : f_R_keepTop σ x1 x2 = some r) : Ev (d + 241) 139 [pvR 6 0 116, pvI x1, pvI x2] (true, n, e, σ) (0, none, true, n, e, r) := by
  unfold f_R_keepTop at h
  refine Ev.of mtE139 rfl rfl rfl rfl ?_
  show Go none (Ev (d + 240)) mt139 0 [some (pvR 6 0 116), some (pvI x1), some (pvI x2), none, none, none, none, none, none, none, none] [] (true, n, e, σ) (0, none, true, n, e, r)
  refine go_aload_n (pc' := 1) dX6_keepTop_0 rfl rfl (Nat.le_of_ble_eq_true rfl) ?_
  refine go_getR (k' := 7) (L0 := 0) (P' := 1) (pc' := 4) dX6_keepTop_1 rfl rf_6_37 rfl rfl (by omega) ?_
  refine go_iload_n (pc' := 5) dX6_keepTop_4 rfl rfl ?_
  obtain ⟨v1, k2, h⟩ := bd h
  have k2 := l_S_dimension (d + 239) n e σ x1 _ k2
  refine go_call (kc := 21) (Mc := mt21) (v := some (pvR 0 0 v1)) (w' := (true, n, e, σ)) (pc' := 8) (st' := [pvR 0 0 v1]) [pvR 7 0 1, pvI x1] [] (Or.inl rfl) dX6_keepTop_5 rfl rm_6_80 mtE21 rfl rfl rfl (Nat.le_of_ble_eq_true rfl) (Or.inr ⟨_, _, 1, rfl, Or.inl rfl⟩) k2 rfl ?_
  refine go_astore_n (L' := [some (pvR 6 0 116), some (pvI x1), some (pvI x2), some (pvR 0 0 v1), none, none, none, none, none, none, none]) (pc' := 9) dX6_keepTop_8 rfl (Nat.le_of_ble_eq_true rfl) (Nat.le_of_ble_eq_true rfl) rfl ?_
  refine go_aload_n (pc' := 10) dX6_keepTop_9 rfl rfl (Nat.le_of_ble_eq_true rfl) ?_
  refine go_getI (pc' := 13) dX6_keepTop_10 rfl rf_6_237 rfl ?_
  refine go_istore (L' := [some (pvR 6 0 116), some (pvI x1), some (pvI x2), some (pvR 0 0 v1), some (pvI (σ v1 2)), none, none, none, none, none, none]) (pc' := 15) dX6_keepTop_13 rfl (Nat.le_of_ble_eq_true rfl) rfl ?_
  refine go_iconst (pc' := 16) dX6_keepTop_15 rfl (r32_c rfl) ?_
  refine go_istore (L' := [some (pvR 6 0 116), some (pvI x1), some (pvI x2), some (pvR 0 0 v1), some (pvI (σ v1 2)), some (pvI 0), none, none, none, none, none]) (pc' := 18) dX6_keepTop_16 rfl (Nat.le_of_ble_eq_true rfl) rfl ?_
  refine go_iconst (pc' := 19) dX6_keepTop_18 rfl (r32_c rfl) ?_
  refine go_istore (L' := [some (pvR 6 0 116), some (pvI x1), some (pvI x2), some (pvR 0 0 v1), some (pvI (σ v1 2)), some (pvI 0), some (pvI 0), none, none, none, none]) (pc' := 21) dX6_keepTop_19 rfl (Nat.le_of_ble_eq_true rfl) rfl ?_
  obtain ⟨j29, k30, h⟩ := bd h
  refine l_R_keepTop_21 d n e σ x1 x2 v1 zFuel 0 0 σ _ k30 ?_
  refine go_aload_n (pc' := 115) dX6_keepTop_114 rfl rfl (Nat.le_of_ble_eq_true rfl) ?_
  refine go_iload (pc' := 117) dX6_keepTop_115 rfl rfl ?_
  refine go_iload_n (pc' := 118) dX6_keepTop_117 rfl rfl ?_
  refine go_imin (pc' := 121) dX6_keepTop_118 rfl rm_6_250 (Nat.le_of_ble_eq_true rfl) ?_
  refine go_putI (pc' := 124) dX6_keepTop_121 rfl rf_6_237 rfl ?_
  cases h
  exact go_vret dX6_keepTop_124 rfl rfl

set_option maxRecDepth 10000 in
theorem l_C_pick (d : Nat) (n e : Nat) (σ : Hp) (x1 : Int) (x2 : Int) (x3 : Int) (x4 : Int) (x5 : Int) (r : Nat × Int × Hp) (h : f_C_pick σ x1 x2 x3 x4 x5 = some r) : Ev (d + 242) 135 [pvR 10 0 0, pvI x1, pvI x2, pvI x3, pvI x4, pvI x5] (true, n, e, σ) (r.1, if r.1 = 0 then some (pvI r.2.1) else none, true, n, e + if r.1 = 0 then 0 else 1, r.2.2) := by
  unfold f_C_pick at h
  refine Ev.of mtE135 rfl rfl rfl rfl ?_
  show Go none (Ev (d + 241)) mt135 0 [some (pvR 10 0 0), some (pvI x1), some (pvI x2), some (pvI x3), some (pvI x4), some (pvI x5), none] [] (true, n, e, σ) (r.1, if r.1 = 0 then some (pvI r.2.1) else none, true, n, e + if r.1 = 0 then 0 else 1, r.2.2)
  refine go_aload_n (pc' := 1) dX10_pick_0 rfl rfl (Nat.le_of_ble_eq_true rfl) ?_
  refine go_iload_n (pc' := 2) dX10_pick_1 rfl rfl ?_
  obtain ⟨v1, k2, h⟩ := bd h
  by_cases c3 : v1.1 = 0
  · rw [if_pos c3] at h
    have k2 := l_C_existing (d + 239) n e σ x1 _ k2
    rw [c3] at k2
    refine go_call (kc := 20) (Mc := mt20) (v := some (pvR 0 0 v1.2)) (w' := (true, n, e, σ)) (pc' := 5) (st' := [pvR 0 0 v1.2]) [pvR 10 0 0, pvI x1] [] (Or.inl rfl) dX10_pick_2 rfl rm_10_62 mtE20 rfl rfl rfl (Nat.le_of_ble_eq_true rfl) (Or.inr ⟨_, _, 0, rfl, Or.inl rfl⟩) k2 rfl ?_
    refine go_astore (L' := [some (pvR 10 0 0), some (pvI x1), some (pvI x2), some (pvI x3), some (pvI x4), some (pvI x5), some (pvR 0 0 v1.2)]) (pc' := 7) dX10_pick_5 rfl (Nat.le_of_ble_eq_true rfl) (Nat.le_of_ble_eq_true rfl) rfl ?_
    refine go_iload_n (pc' := 8) dX10_pick_7 rfl rfl ?_
    refine go_iconst (pc' := 9) dX10_pick_8 rfl (r32_c rfl) ?_
    obtain ⟨j4, k5, h⟩ := bd h
    have k5J : j4.1 = 0 → Go none (Ev (d + 241)) mt135 18 [some (pvR 10 0 0), some (pvI x1), some (pvI x2), some (pvI x3), some (pvI x4), some (pvI x5), some (pvR 0 0 v1.2)] [] (true, n, e, σ) (r.1, if r.1 = 0 then some (pvI r.2.1) else none, true, n, e + if r.1 = 0 then 0 else 1, r.2.2) := by
      intro c54
      rw [if_pos c54] at h
      refine go_iload (pc' := 20) dX10_pick_18 rfl rfl ?_
      obtain ⟨j10, k11, h⟩ := bd h
      have k11J : j10.1 = 0 → Go none (Ev (d + 241)) mt135 29 [some (pvR 10 0 0), some (pvI x1), some (pvI x2), some (pvI x3), some (pvI x4), some (pvI x5), some (pvR 0 0 v1.2)] [] (true, n, e, σ) (r.1, if r.1 = 0 then some (pvI r.2.1) else none, true, n, e + if r.1 = 0 then 0 else 1, r.2.2) := by
        intro c52
        rw [if_pos c52] at h
        refine go_iload_n (pc' := 30) dX10_pick_29 rfl rfl ?_
        refine go_iconst (pc' := 31) dX10_pick_30 rfl (r32_c rfl) ?_
        refine go_iconst (pc' := 32) dX10_pick_31 rfl (r32_c rfl) ?_
        obtain ⟨v16, k17, h⟩ := bd h
        by_cases c18 : v16 = 0
        · rw [if_pos c18] at h
          have k17 := l_C_needRange (d + 240) n e σ x2 0 2 _ k17
          rw [c18] at k17
          refine go_call (kc := 24) (Mc := mt24) (v := none) (w' := (true, n, e, σ)) (pc' := 35) (st' := []) [pvI x2, pvI 0, pvI 2] [] (Or.inr (Or.inl rfl)) dX10_pick_32 rfl rm_10_70 mtE24 rfl rfl rfl (Nat.le_of_ble_eq_true rfl) (Or.inl (by decide)) k17 rfl ?_
          refine go_iload (pc' := 37) dX10_pick_35 rfl rfl ?_
          refine go_iconst (pc' := 38) dX10_pick_37 rfl (r32_c rfl) ?_
          refine go_bipush (pc' := 40) dX10_pick_38 rfl (r32_c rfl) (by decide) ?_
          obtain ⟨v19, k20, h⟩ := bd h
          by_cases c21 : v19 = 0
          · rw [if_pos c21] at h
            have k20 := l_C_needRange (d + 240) n e σ x5 0 12 _ k20
            rw [c21] at k20
            refine go_call (kc := 24) (Mc := mt24) (v := none) (w' := (true, n, e, σ)) (pc' := 43) (st' := []) [pvI x5, pvI 0, pvI 12] [] (Or.inr (Or.inl rfl)) dX10_pick_40 rfl rm_10_70 mtE24 rfl rfl rfl (Nat.le_of_ble_eq_true rfl) (Or.inl (by decide)) k20 rfl ?_
            refine go_iload_n (pc' := 44) dX10_pick_43 rfl rfl ?_
            refine go_iconst (pc' := 45) dX10_pick_44 rfl (r32_c rfl) ?_
            obtain ⟨j22, k23, h⟩ := bd h
            have k23J : j22.1 = 0 → Go none (Ev (d + 241)) mt135 55 [some (pvR 10 0 0), some (pvI x1), some (pvI x2), some (pvI x3), some (pvI x4), some (pvI x5), some (pvR 0 0 v1.2)] [] (true, n, e, σ) (r.1, if r.1 = 0 then some (pvI r.2.1) else none, true, n, e + if r.1 = 0 then 0 else 1, r.2.2) := by
              intro c48
              rw [if_pos c48] at h
              refine go_iload_n (pc' := 56) dX10_pick_55 rfl rfl ?_
              refine go_iconst (pc' := 57) dX10_pick_56 rfl (r32_c rfl) ?_
              obtain ⟨j28, k29, h⟩ := bd h
              have k29J : Go none (Ev (d + 241)) mt135 74 [some (pvR 10 0 0), some (pvI x1), some (pvI x2), some (pvI x3), some (pvI x4), some (pvI x5), some (pvR 0 0 v1.2)] [pvI j28] (true, n, e, σ) (r.1, if r.1 = 0 then some (pvI r.2.1) else none, true, n, e + if r.1 = 0 then 0 else 1, r.2.2) := by
                obtain ⟨v33, k34, h⟩ := bd h
                by_cases c35 : v33 = 0
                · rw [if_pos c35] at h
                  have k34 := l_C_need (d + 240) n e σ j28 _ k34
                  rw [c35] at k34
                  refine go_call (kc := 26) (Mc := mt26) (v := none) (w' := (true, n, e, σ)) (pc' := 77) (st' := []) [pvI j28] [] (Or.inr (Or.inl rfl)) dX10_pick_74 rfl rm_10_84 mtE26 rfl rfl rfl (Nat.le_of_ble_eq_true rfl) (Or.inl (by decide)) k34 rfl ?_
                  refine go_aload (pc' := 79) dX10_pick_77 rfl rfl (Nat.le_of_ble_eq_true rfl) ?_
                  refine go_iload_n (pc' := 80) dX10_pick_79 rfl rfl ?_
                  refine go_iload_n (pc' := 81) dX10_pick_80 rfl rfl ?_
                  obtain ⟨v36, k37, h⟩ := bd h
                  have k37 := l_D_pickAll (d + 236) n e σ v1.2 x2 x3 _ k37
                  refine go_call (kc := 136) (Mc := mt136) (v := none) (w' := (true, n, e, v36)) (pc' := 84) (st' := []) [pvR 0 0 v1.2, pvI x2, pvI x3] [] (Or.inl rfl) dX10_pick_81 rfl rm_10_256 mtE136 rfl rfl rfl (Nat.le_of_ble_eq_true rfl) (Or.inr ⟨_, _, v1.2, rfl, Or.inl rfl⟩) k37 rfl ?_
                  refine go_iload (pc' := 86) dX10_pick_84 rfl rfl ?_
                  obtain ⟨j38, k39, h⟩ := bd h
                  have k39J : Go none (Ev (d + 241)) mt135 108 [some (pvR 10 0 0), some (pvI x1), some (pvI x2), some (pvI x3), some (pvI x4), some (pvI x5), some (pvR 0 0 v1.2)] [] (true, n, e, j38) (r.1, if r.1 = 0 then some (pvI r.2.1) else none, true, n, e + if r.1 = 0 then 0 else 1, r.2.2) := by
                    refine go_aload (pc' := 110) dX10_pick_108 rfl rfl (Nat.le_of_ble_eq_true rfl) ?_
                    refine go_getI (pc' := 113) dX10_pick_110 rfl rf_10_262 rfl ?_
                    cases h
                    exact go_iret dX10_pick_113 rfl rfl
                  clear h
                  have h := k39
                  refine go_if_eq (t := 108) (pc' := 89) dX10_pick_86 rfl rfl (fun c44 => ?_) (fun c44 => ?_)
                  · rw [if_pos (show x5 = 0 from c44)] at h
                    cases h
                    exact k39J
                  · rw [if_neg (show ¬ (x5 = 0) from c44)] at h
                    refine go_aload_n (pc' := 90) dX10_pick_89 rfl rfl (Nat.le_of_ble_eq_true rfl) ?_
                    refine go_getR (k' := 6) (L0 := 0) (P' := 116) (pc' := 93) dX10_pick_90 rfl rf_10_51 rfl rfl (by omega) ?_
                    refine go_iload (pc' := 95) dX10_pick_93 rfl rfl ?_
                    obtain ⟨v40, k41, h⟩ := bd h
                    have k41 := l_R_begins (d + 240) n e v36 x4 _ k41
                    refine go_call (kc := 108) (Mc := mt108) (v := none) (w' := (true, n, e, v40)) (pc' := 98) (st' := []) [pvR 6 0 116, pvI x4] [] (Or.inl rfl) dX10_pick_95 rfl rm_10_242 mtE108 rfl rfl rfl (Nat.le_of_ble_eq_true rfl) (Or.inr ⟨_, _, 116, rfl, Or.inl rfl⟩) k41 rfl ?_
                    refine go_aload_n (pc' := 99) dX10_pick_98 rfl rfl (Nat.le_of_ble_eq_true rfl) ?_
                    refine go_getR (k' := 6) (L0 := 0) (P' := 116) (pc' := 102) dX10_pick_99 rfl rf_10_51 rfl rfl (by omega) ?_
                    refine go_iload_n (pc' := 103) dX10_pick_102 rfl rfl ?_
                    refine go_iload (pc' := 105) dX10_pick_103 rfl rfl ?_
                    obtain ⟨v42, k43, h⟩ := bd h
                    have k43 := l_R_keepTop (d + 0) n e v40 x1 x5 _ k43
                    refine go_call (kc := 139) (Mc := mt139) (v := none) (w' := (true, n, e, v42)) (pc' := 108) (st' := []) [pvR 6 0 116, pvI x1, pvI x5] [] (Or.inl rfl) dX10_pick_105 rfl rm_10_259 mtE139 rfl rfl rfl (Nat.le_of_ble_eq_true rfl) (Or.inr ⟨_, _, 116, rfl, Or.inl rfl⟩) k43 rfl ?_
                    cases h
                    exact k39J
                · rw [if_neg c35] at h
                  obtain ⟨g45, h⟩ := gd h
                  cases h
                  have k34 := l_C_need (d + 240) n e σ j28 _ k34
                  simp only [if_neg c35] at k34 ⊢
                  exact go_callX (kc := 26) (Mc := mt26) [pvI j28] [] (Or.inr rfl) dX10_pick_74 rm_10_84 mtE26 rfl rfl rfl (Nat.le_of_ble_eq_true rfl) (Or.inl (by decide)) rfl c35 g45 k34 rfl
              clear h
              have h := k29
              refine go_icmp_eq (t := 69) (pc' := 60) dX10_pick_57 rfl rfl (fun c46 => ?_) (fun c46 => ?_)
              · rw [if_pos (show x2 = 2 from c46)] at h
                refine go_iconst (pc' := 70) dX10_pick_69 rfl (r32_c rfl) ?_
                refine go_goto (t := 74) dX10_pick_70 rfl ?_
                cases h
                exact k29J
              · rw [if_neg (show ¬ (x2 = 2) from c46)] at h
                refine go_aload (pc' := 62) dX10_pick_60 rfl rfl (Nat.le_of_ble_eq_true rfl) ?_
                refine go_iload_n (pc' := 63) dX10_pick_62 rfl rfl ?_
                obtain ⟨v30, k31, h⟩ := bd h
                have k31 := l_D_isPlain (d + 239) n e σ v1.2 x3 _ k31
                refine go_call (kc := 25) (Mc := mt25) (v := some (pvI v30)) (w' := (true, n, e, σ)) (pc' := 66) (st' := [pvI v30]) [pvR 0 0 v1.2, pvI x3] [] (Or.inl rfl) dX10_pick_63 rfl rm_10_74 mtE25 rfl rfl rfl (Nat.le_of_ble_eq_true rfl) (Or.inr ⟨_, _, v1.2, rfl, Or.inl rfl⟩) k31 rfl ?_
                refine go_if_eq (t := 73) (pc' := 69) dX10_pick_66 rfl rfl (fun c32 => ?_) (fun c32 => ?_)
                · rw [if_pos (show v30 = 0 from c32)] at h
                  refine go_iconst (pc' := 74) dX10_pick_73 rfl (r32_c rfl) ?_
                  cases h
                  exact k29J
                · rw [if_neg (show ¬ (v30 = 0) from c32)] at h
                  refine go_iconst (pc' := 70) dX10_pick_69 rfl (r32_c rfl) ?_
                  refine go_goto (t := 74) dX10_pick_70 rfl ?_
                  cases h
                  exact k29J
            have k23X : j22.1 ≠ 0 → r = (j22.1, 0, σ) := by
              intro c48
              rw [if_neg c48] at h
              cases h
              rfl
            clear h
            have h := k23
            refine go_icmp_ne (t := 55) (pc' := 48) dX10_pick_45 rfl rfl (fun c47 => ?_) (fun c47 => ?_)
            · rw [if_pos (show x2 ≠ 2 from c47)] at h
              cases h
              exact (k23J rfl)
            · rw [if_neg (show ¬ (x2 ≠ 2) from c47)] at h
              refine go_iload_n (pc' := 49) dX10_pick_48 rfl rfl ?_
              refine go_iconst (pc' := 50) dX10_pick_49 rfl (r32_c rfl) ?_
              refine go_bipush (pc' := 52) dX10_pick_50 rfl (r32_c rfl) (by decide) ?_
              obtain ⟨v24, k25, h⟩ := bd h
              by_cases c26 : v24 = 0
              · rw [if_pos c26] at h
                have k25 := l_C_needRange (d + 240) n e σ x3 0 11 _ k25
                rw [c26] at k25
                refine go_call (kc := 24) (Mc := mt24) (v := none) (w' := (true, n, e, σ)) (pc' := 55) (st' := []) [pvI x3, pvI 0, pvI 11] [] (Or.inr (Or.inl rfl)) dX10_pick_52 rfl rm_10_70 mtE24 rfl rfl rfl (Nat.le_of_ble_eq_true rfl) (Or.inl (by decide)) k25 rfl ?_
                cases h
                exact (k23J rfl)
              · rw [if_neg c26] at h
                obtain ⟨g27, h⟩ := gd h
                cases h
                have hr : r = (v24, 0, σ) := k23X c26
                subst hr
                have k25 := l_C_needRange (d + 240) n e σ x3 0 11 _ k25
                simp only [if_neg c26] at k25 ⊢
                exact go_callX (kc := 24) (Mc := mt24) [pvI x3, pvI 0, pvI 11] [] (Or.inr rfl) dX10_pick_52 rm_10_70 mtE24 rfl rfl rfl (Nat.le_of_ble_eq_true rfl) (Or.inl (by decide)) rfl c26 g27 k25 rfl
          · rw [if_neg c21] at h
            obtain ⟨g49, h⟩ := gd h
            cases h
            have k20 := l_C_needRange (d + 240) n e σ x5 0 12 _ k20
            simp only [if_neg c21] at k20 ⊢
            exact go_callX (kc := 24) (Mc := mt24) [pvI x5, pvI 0, pvI 12] [] (Or.inr rfl) dX10_pick_40 rm_10_70 mtE24 rfl rfl rfl (Nat.le_of_ble_eq_true rfl) (Or.inl (by decide)) rfl c21 g49 k20 rfl
        · rw [if_neg c18] at h
          obtain ⟨g50, h⟩ := gd h
          cases h
          have k17 := l_C_needRange (d + 240) n e σ x2 0 2 _ k17
          simp only [if_neg c18] at k17 ⊢
          exact go_callX (kc := 24) (Mc := mt24) [pvI x2, pvI 0, pvI 2] [] (Or.inr rfl) dX10_pick_32 rm_10_70 mtE24 rfl rfl rfl (Nat.le_of_ble_eq_true rfl) (Or.inl (by decide)) rfl c18 g50 k17 rfl
      have k11X : j10.1 ≠ 0 → r = (j10.1, 0, σ) := by
        intro c52
        rw [if_neg c52] at h
        cases h
        rfl
      clear h
      have h := k11
      refine go_if_eq (t := 29) (pc' := 23) dX10_pick_20 rfl rfl (fun c51 => ?_) (fun c51 => ?_)
      · rw [if_pos (show x5 = 0 from c51)] at h
        cases h
        exact (k11J rfl)
      · rw [if_neg (show ¬ (x5 = 0) from c51)] at h
        refine go_aload_n (pc' := 24) dX10_pick_23 rfl rfl (Nat.le_of_ble_eq_true rfl) ?_
        refine go_iload (pc' := 26) dX10_pick_24 rfl rfl ?_
        obtain ⟨v12, k13, h⟩ := bd h
        by_cases c14 : v12 = 0
        · rw [if_pos c14] at h
          have k13 := l_C_needMeasure (d + 239) n e σ x4 _ k13
          rw [c14] at k13
          refine go_call (kc := 68) (Mc := mt68) (v := none) (w' := (true, n, e, σ)) (pc' := 29) (st' := []) [pvR 10 0 0, pvI x4] [] (Or.inl rfl) dX10_pick_26 rfl rm_10_193 mtE68 rfl rfl rfl (Nat.le_of_ble_eq_true rfl) (Or.inr ⟨_, _, 0, rfl, Or.inl rfl⟩) k13 rfl ?_
          cases h
          exact (k11J rfl)
        · rw [if_neg c14] at h
          obtain ⟨g15, h⟩ := gd h
          cases h
          have hr : r = (v12, 0, σ) := k11X c14
          subst hr
          have k13 := l_C_needMeasure (d + 239) n e σ x4 _ k13
          simp only [if_neg c14] at k13 ⊢
          exact go_callX (kc := 68) (Mc := mt68) [pvR 10 0 0, pvI x4] [] (Or.inl rfl) dX10_pick_26 rm_10_193 mtE68 rfl rfl rfl (Nat.le_of_ble_eq_true rfl) (Or.inr ⟨_, _, 0, rfl, Or.inl rfl⟩) rfl c14 g15 k13 rfl
    have k5X : j4.1 ≠ 0 → r = (j4.1, 0, σ) := by
      intro c54
      rw [if_neg c54] at h
      cases h
      rfl
    clear h
    have h := k5
    refine go_icmp_eq (t := 18) (pc' := 12) dX10_pick_9 rfl rfl (fun c53 => ?_) (fun c53 => ?_)
    · rw [if_pos (show x2 = 2 from c53)] at h
      cases h
      exact (k5J rfl)
    · rw [if_neg (show ¬ (x2 = 2) from c53)] at h
      refine go_aload (pc' := 14) dX10_pick_12 rfl rfl (Nat.le_of_ble_eq_true rfl) ?_
      refine go_iload_n (pc' := 15) dX10_pick_14 rfl rfl ?_
      obtain ⟨v6, k7, h⟩ := bd h
      by_cases c8 : v6 = 0
      · rw [if_pos c8] at h
        have k7 := l_C_needMember (d + 239) n e σ v1.2 x3 _ k7
        rw [c8] at k7
        refine go_call (kc := 22) (Mc := mt22) (v := none) (w' := (true, n, e, σ)) (pc' := 18) (st' := []) [pvR 0 0 v1.2, pvI x3] [] (Or.inr (Or.inl rfl)) dX10_pick_15 rfl rm_10_66 mtE22 rfl rfl rfl (Nat.le_of_ble_eq_true rfl) (Or.inl (by decide)) k7 rfl ?_
        cases h
        exact (k5J rfl)
      · rw [if_neg c8] at h
        obtain ⟨g9, h⟩ := gd h
        cases h
        have hr : r = (v6, 0, σ) := k5X c8
        subst hr
        have k7 := l_C_needMember (d + 239) n e σ v1.2 x3 _ k7
        simp only [if_neg c8] at k7 ⊢
        exact go_callX (kc := 22) (Mc := mt22) [pvR 0 0 v1.2, pvI x3] [] (Or.inr rfl) dX10_pick_15 rm_10_66 mtE22 rfl rfl rfl (Nat.le_of_ble_eq_true rfl) (Or.inl (by decide)) rfl c8 g9 k7 rfl
  · rw [if_neg c3] at h
    obtain ⟨g55, h⟩ := gd h
    cases h
    have k2 := l_C_existing (d + 239) n e σ x1 _ k2
    simp only [if_neg c3] at k2 ⊢
    exact go_callX (kc := 20) (Mc := mt20) [pvR 10 0 0, pvI x1] [] (Or.inl rfl) dX10_pick_2 rm_10_62 mtE20 rfl rfl rfl (Nat.le_of_ble_eq_true rfl) (Or.inr ⟨_, _, 0, rfl, Or.inl rfl⟩) rfl c3 g55 k2 rfl

set_option maxRecDepth 10000 in
theorem l_L_pick (d : Nat) (n e : Nat) (σ : Hp) (x2 : Int) (x3 : Int) (x4 : Int) (x5 : Int) (x6 : Int) (r : Int × Nat × Hp) (h : f_L_pick σ e x2 x3 x4 x5 x6 = some r) : Ev (d + 243) 134 [pvR 10 0 0, pvI x2, pvI x3, pvI x4, pvI x5, pvI x6, pvR 13 1 170] (true, n, e, σ) (0, some (pvI r.1), true, n, r.2.1, r.2.2) := by
  unfold f_L_pick at h
  refine Ev.of mtE134 rfl rfl rfl rfl ?_
  show Go none (Ev (d + 242)) mt134 0 [some (pvR 10 0 0), some (pvI x2), some (pvI x3), some (pvI x4), some (pvI x5), some (pvI x6), some (pvR 13 1 170), none] [] (true, n, e, σ) (0, some (pvI r.1), true, n, r.2.1, r.2.2)
  refine go_aload (pc' := 2) dL_pick_0 rfl rfl (Nat.le_of_ble_eq_true rfl) ?_
  refine go_iconst (pc' := 3) dL_pick_2 rfl (r32_c rfl) ?_
  refine go_aload_n (pc' := 4) dL_pick_3 rfl rfl (Nat.le_of_ble_eq_true rfl) ?_
  refine go_iload_n (pc' := 5) dL_pick_4 rfl rfl ?_
  refine go_iload_n (pc' := 6) dL_pick_5 rfl rfl ?_
  refine go_iload_n (pc' := 7) dL_pick_6 rfl rfl ?_
  refine go_iload (pc' := 9) dL_pick_7 rfl rfl ?_
  refine go_iload (pc' := 11) dL_pick_9 rfl rfl ?_
  obtain ⟨v1, k2, h⟩ := bd h
  by_cases c3 : v1.1 = 0
  · rw [if_pos c3] at h
    have k2 := l_C_pick (d + 0) n e σ x2 x3 x4 x5 x6 _ k2
    rw [c3] at k2
    refine go_call (kc := 135) (Mc := mt135) (v := some (pvI v1.2.1)) (w' := (true, n, e, v1.2.2)) (pc' := 14) (st' := [pvI v1.2.1, pvI 0, pvR 13 1 170]) [pvR 10 0 0, pvI x2, pvI x3, pvI x4, pvI x5, pvI x6] [pvI 0, pvR 13 1 170] (Or.inl rfl) dL_pick_11 rfl rm_12_63 mtE135 rfl rfl rfl (Nat.le_of_ble_eq_true rfl) (Or.inr ⟨_, _, 0, rfl, Or.inl rfl⟩) k2 rfl ?_
    refine go_i2l (pc' := 15) dL_pick_14 rfl ?_
    obtain ⟨g4, h⟩ := gd h
    refine go_last (pc' := 16) dL_pick_15 rfl g4 ?_
    refine go_goto (t := 31) dL_pick_16 rfl ?_
    refine go_iconst (pc' := 32) dL_pick_31 rfl (r32_c rfl) ?_
    cases h
    exact go_iret dL_pick_32 rfl rfl
  · rw [if_neg c3] at h
    by_cases c5 : v1.1 = 1
    · rw [if_pos c5] at h
      have k2 := l_C_pick (d + 0) n e σ x2 x3 x4 x5 x6 _ k2
      rw [c5] at k2
      refine go_callH (x := 1) (kc := 135) (Mc := mt135) (h := 19) (i := 7) (ln := 2) (w' := (true, n, (e + 1), v1.2.2)) (pc' := 21) (L' := [some (pvR 10 0 0), some (pvI x2), some (pvI x3), some (pvI x4), some (pvI x5), some (pvI x6), some (pvR 13 1 170), none]) [pvR 10 0 0, pvI x2, pvI x3, pvI x4, pvI x5, pvI x6] [pvI 0, pvR 13 1 170] (Or.inl rfl) dL_pick_11 rm_12_63 mtE135 rfl rfl rfl (Nat.le_of_ble_eq_true rfl) (Or.inr ⟨_, _, 0, rfl, Or.inl rfl⟩) (by decide +kernel) (by decide) (by decide) (Or.inl ⟨dL_pick_19, rfl⟩) (Nat.le_of_ble_eq_true rfl) rfl rfl k2 ?_
      refine go_iconst (pc' := 22) dL_pick_21 rfl (r32_c rfl) ?_
      cases h
      exact go_iret dL_pick_22 rfl rfl
    · rw [if_neg c5] at h
      by_cases c6 : v1.1 = 2
      · rw [if_pos c6] at h
        have k2 := l_C_pick (d + 0) n e σ x2 x3 x4 x5 x6 _ k2
        rw [c6] at k2
        refine go_callH (x := 2) (kc := 135) (Mc := mt135) (h := 23) (i := 7) (ln := 2) (w' := (true, n, (e + 1), v1.2.2)) (pc' := 25) (L' := [some (pvR 10 0 0), some (pvI x2), some (pvI x3), some (pvI x4), some (pvI x5), some (pvI x6), some (pvR 13 1 170), none]) [pvR 10 0 0, pvI x2, pvI x3, pvI x4, pvI x5, pvI x6] [pvI 0, pvR 13 1 170] (Or.inl rfl) dL_pick_11 rm_12_63 mtE135 rfl rfl rfl (Nat.le_of_ble_eq_true rfl) (Or.inr ⟨_, _, 0, rfl, Or.inl rfl⟩) (by decide +kernel) (by decide) (by decide) (Or.inl ⟨dL_pick_23, rfl⟩) (Nat.le_of_ble_eq_true rfl) rfl rfl k2 ?_
        refine go_iconst (pc' := 26) dL_pick_25 rfl (r32_c rfl) ?_
        cases h
        exact go_iret dL_pick_26 rfl rfl
      · rw [if_neg c6] at h
        by_cases c7 : v1.1 = 3
        · rw [if_pos c7] at h
          have k2 := l_C_pick (d + 0) n e σ x2 x3 x4 x5 x6 _ k2
          rw [c7] at k2
          refine go_callH (x := 3) (kc := 135) (Mc := mt135) (h := 27) (i := 7) (ln := 2) (w' := (true, n, (e + 1), v1.2.2)) (pc' := 29) (L' := [some (pvR 10 0 0), some (pvI x2), some (pvI x3), some (pvI x4), some (pvI x5), some (pvI x6), some (pvR 13 1 170), none]) [pvR 10 0 0, pvI x2, pvI x3, pvI x4, pvI x5, pvI x6] [pvI 0, pvR 13 1 170] (Or.inl rfl) dL_pick_11 rm_12_63 mtE135 rfl rfl rfl (Nat.le_of_ble_eq_true rfl) (Or.inr ⟨_, _, 0, rfl, Or.inl rfl⟩) (by decide +kernel) (by decide) (by decide) (Or.inl ⟨dL_pick_27, rfl⟩) (Nat.le_of_ble_eq_true rfl) rfl rfl k2 ?_
          refine go_iconst (pc' := 30) dL_pick_29 rfl (r32_c rfl) ?_
          cases h
          exact go_iret dL_pick_30 rfl rfl
        · rw [if_neg c7] at h
          cases h

set_option maxRecDepth 10000 in
theorem l_C_picked (d : Nat) (n e : Nat) (σ : Hp) (x1 : Int) (x2 : Int) (r : Nat × Int) (h : f_C_picked σ x1 x2 = some r) : Ev (d + 3) 144 [pvR 10 0 0, pvI x1, pvI x2] (true, n, e, σ) (r.1, if r.1 = 0 then some (pvI r.2) else none, true, n, e + if r.1 = 0 then 0 else 1, σ) := by
  unfold f_C_picked at h
  refine Ev.of mtE144 rfl rfl rfl rfl ?_
  show Go none (Ev (d + 2)) mt144 0 [some (pvR 10 0 0), some (pvI x1), some (pvI x2), none] [] (true, n, e, σ) (r.1, if r.1 = 0 then some (pvI r.2) else none, true, n, e + if r.1 = 0 then 0 else 1, σ)
  refine go_aload_n (pc' := 1) dX10_picked_0 rfl rfl (Nat.le_of_ble_eq_true rfl) ?_
  refine go_iload_n (pc' := 2) dX10_picked_1 rfl rfl ?_
  obtain ⟨v1, k2, h⟩ := bd h
  by_cases c3 : v1.1 = 0
  · rw [if_pos c3] at h
    have k2 := l_C_existing (d + 0) n e σ x1 _ k2
    rw [c3] at k2
    refine go_call (kc := 20) (Mc := mt20) (v := some (pvR 0 0 v1.2)) (w' := (true, n, e, σ)) (pc' := 5) (st' := [pvR 0 0 v1.2]) [pvR 10 0 0, pvI x1] [] (Or.inl rfl) dX10_picked_2 rfl rm_10_62 mtE20 rfl rfl rfl (Nat.le_of_ble_eq_true rfl) (Or.inr ⟨_, _, 0, rfl, Or.inl rfl⟩) k2 rfl ?_
    refine go_astore_n (L' := [some (pvR 10 0 0), some (pvI x1), some (pvI x2), some (pvR 0 0 v1.2)]) (pc' := 6) dX10_picked_5 rfl (Nat.le_of_ble_eq_true rfl) (Nat.le_of_ble_eq_true rfl) rfl ?_
    refine go_iload_n (pc' := 7) dX10_picked_6 rfl rfl ?_
    refine go_if_ge (t := 21) (pc' := 10) dX10_picked_7 rfl rfl (fun c6 => ?_) (fun c6 => ?_)
    · rw [if_pos (show 0 ≤ x2 from c6)] at h
      refine go_aload_n (pc' := 22) dX10_picked_21 rfl rfl (Nat.le_of_ble_eq_true rfl) ?_
      refine go_iload_n (pc' := 23) dX10_picked_22 rfl rfl ?_
      obtain ⟨v4, k5, h⟩ := bd h
      have k5 := l_D_pickedAt (d + 1) n e σ v1.2 x2 _ k5
      refine go_call (kc := 140) (Mc := mt140) (v := some (pvI v4)) (w' := (true, n, e, σ)) (pc' := 26) (st' := [pvI v4]) [pvR 0 0 v1.2, pvI x2] [] (Or.inl rfl) dX10_picked_23 rfl rm_10_267 mtE140 rfl rfl rfl (Nat.le_of_ble_eq_true rfl) (Or.inr ⟨_, _, v1.2, rfl, Or.inl rfl⟩) k5 rfl ?_
      cases h
      exact go_iret dX10_picked_26 rfl rfl
    · rw [if_neg (show ¬ (0 ≤ x2) from c6)] at h
      cases h
      exact go_throw (x := 1) (ic := 112) (ln := 3) (tx := "no such place") dX10_picked_10 rt_10_108 rfl rfl (Nat.le_of_ble_eq_true rfl) dX10_picked_13 (Or.inr ⟨dX10_picked_14, rfl⟩) dX10_picked_17 dX10_picked_20 (Or.inl ⟨rfl, rfl⟩) (by decide +kernel) rfl
  · rw [if_neg c3] at h
    obtain ⟨g7, h⟩ := gd h
    cases h
    have k2 := l_C_existing (d + 0) n e σ x1 _ k2
    simp only [if_neg c3] at k2 ⊢
    exact go_callX (kc := 20) (Mc := mt20) [pvR 10 0 0, pvI x1] [] (Or.inl rfl) dX10_picked_2 rm_10_62 mtE20 rfl rfl rfl (Nat.le_of_ble_eq_true rfl) (Or.inr ⟨_, _, 0, rfl, Or.inl rfl⟩) rfl c3 g7 k2 rfl

set_option maxRecDepth 10000 in
theorem l_L_picked (d : Nat) (n e : Nat) (σ : Hp) (x2 : Int) (x3 : Int) (r : Int × Nat × Hp) (h : f_L_picked σ e x2 x3 = some r) : Ev (d + 4) 143 [pvR 10 0 0, pvI x2, pvI x3, pvR 13 1 170] (true, n, e, σ) (0, some (pvI r.1), true, n, r.2.1, r.2.2) := by
  unfold f_L_picked at h
  refine Ev.of mtE143 rfl rfl rfl rfl ?_
  show Go none (Ev (d + 3)) mt143 0 [some (pvR 10 0 0), some (pvI x2), some (pvI x3), some (pvR 13 1 170), none] [] (true, n, e, σ) (0, some (pvI r.1), true, n, r.2.1, r.2.2)
  refine go_aload_n (pc' := 1) dL_picked_0 rfl rfl (Nat.le_of_ble_eq_true rfl) ?_
  refine go_iconst (pc' := 2) dL_picked_1 rfl (r32_c rfl) ?_
  refine go_aload_n (pc' := 3) dL_picked_2 rfl rfl (Nat.le_of_ble_eq_true rfl) ?_
  refine go_iload_n (pc' := 4) dL_picked_3 rfl rfl ?_
  refine go_iload_n (pc' := 5) dL_picked_4 rfl rfl ?_
  obtain ⟨v1, k2, h⟩ := bd h
  by_cases c3 : v1.1 = 0
  · rw [if_pos c3] at h
    have k2 := l_C_picked (d + 0) n e σ x2 x3 _ k2
    rw [c3] at k2
    refine go_call (kc := 144) (Mc := mt144) (v := some (pvI v1.2)) (w' := (true, n, e, σ)) (pc' := 8) (st' := [pvI v1.2, pvI 0, pvR 13 1 170]) [pvR 10 0 0, pvI x2, pvI x3] [pvI 0, pvR 13 1 170] (Or.inl rfl) dL_picked_5 rfl rm_12_66 mtE144 rfl rfl rfl (Nat.le_of_ble_eq_true rfl) (Or.inr ⟨_, _, 0, rfl, Or.inl rfl⟩) k2 rfl ?_
    refine go_i2l (pc' := 9) dL_picked_8 rfl ?_
    obtain ⟨g4, h⟩ := gd h
    refine go_last (pc' := 10) dL_picked_9 rfl g4 ?_
    refine go_goto (t := 17) dL_picked_10 rfl ?_
    refine go_iconst (pc' := 18) dL_picked_17 rfl (r32_c rfl) ?_
    cases h
    exact go_iret dL_picked_18 rfl rfl
  · rw [if_neg c3] at h
    by_cases c5 : v1.1 = 1
    · rw [if_pos c5] at h
      have k2 := l_C_picked (d + 0) n e σ x2 x3 _ k2
      rw [c5] at k2
      refine go_callH (x := 1) (kc := 144) (Mc := mt144) (h := 13) (i := 4) (ln := 2) (w' := (true, n, (e + 1), σ)) (pc' := 15) (L' := [some (pvR 10 0 0), some (pvI x2), some (pvI x3), some (pvR 13 1 170), none]) [pvR 10 0 0, pvI x2, pvI x3] [pvI 0, pvR 13 1 170] (Or.inl rfl) dL_picked_5 rm_12_66 mtE144 rfl rfl rfl (Nat.le_of_ble_eq_true rfl) (Or.inr ⟨_, _, 0, rfl, Or.inl rfl⟩) (by decide +kernel) (by decide) (by decide) (Or.inl ⟨dL_picked_13, rfl⟩) (Nat.le_of_ble_eq_true rfl) rfl rfl k2 ?_
      refine go_iconst (pc' := 16) dL_picked_15 rfl (r32_c rfl) ?_
      cases h
      exact go_iret dL_picked_16 rfl rfl
    · rw [if_neg c5] at h
      cases h

set_option maxRecDepth 10000 in
theorem l_C_cross_82 (d : Nat) (n : Nat) (e : Nat) (x1 : Int) (x2 : Int) (x3 : Int) (v1 : Nat × Nat) (v4 : Nat × Nat) (v19 : Int) (y13 : Int) {out : Out} : ∀ (F : Nat) (y21 : Int) (y22 : Int) (σ23 : Hp) (j36 : Int × Int × Hp), f_C_cross_82 x2 v4 v19 F y21 y22 σ23 = some j36 → Go none (Ev (d + 241)) mt146 128 [some (pvR 10 0 0), some (pvI x1), some (pvI x2), some (pvI x3), some (pvR 0 0 v1.2), some (pvR 0 0 v4.2), some (pvI j36.1), some (pvI y13), some (pvI v19), some (pvI j36.2.1)] [] (true, n, e, j36.2.2) out → Go none (Ev (d + 241)) mt146 82 [some (pvR 10 0 0), some (pvI x1), some (pvI x2), some (pvI x3), some (pvR 0 0 v1.2), some (pvR 0 0 v4.2), some (pvI y21), some (pvI y13), some (pvI v19), some (pvI y22)] [] (true, n, e, σ23) out := by
  intro F
  induction F with
  | zero =>
    intro _ _ _ _ h
    intro _
    rw [f_C_cross_82] at h
    cases h
  | succ F ih =>
    intro y21 y22 σ23 j36 h hx
    rw [f_C_cross_82] at h
    refine go_iload (pc' := 84) dX10_cross_82 rfl rfl ?_
    refine go_aload (pc' := 86) dX10_cross_84 rfl rfl (Nat.le_of_ble_eq_true rfl) ?_
    refine go_getI (pc' := 89) dX10_cross_86 rfl rf_10_262 rfl ?_
    refine go_icmp_ge (t := 128) (pc' := 92) dX10_cross_89 rfl rfl (fun c35 => ?_) (fun c35 => ?_)
    · rw [if_pos (show (σ23 v4.2 2) ≤ y22 from c35)] at h
      cases h
      exact hx
    · rw [if_neg (show ¬ ((σ23 v4.2 2) ≤ y22) from c35)] at h
      refine go_aload_n (pc' := 93) dX10_cross_92 rfl rfl (Nat.le_of_ble_eq_true rfl) ?_
      refine go_getR (k' := 6) (L0 := 0) (P' := 116) (pc' := 96) dX10_cross_93 rfl rf_10_51 rfl rfl (by omega) ?_
      refine go_iload (pc' := 98) dX10_cross_96 rfl rfl ?_
      refine go_iload_n (pc' := 99) dX10_cross_98 rfl rfl ?_
      refine go_aload (pc' := 101) dX10_cross_99 rfl rfl (Nat.le_of_ble_eq_true rfl) ?_
      refine go_iload (pc' := 103) dX10_cross_101 rfl rfl ?_
      obtain ⟨v24, k25, h⟩ := bd h
      have k25 := l_D_pickedAt (d + 240) n e σ23 v4.2 y22 _ k25
      refine go_call (kc := 140) (Mc := mt140) (v := some (pvI v24)) (w' := (true, n, e, σ23)) (pc' := 106) (st' := [pvI v24, pvI x2, pvI v19, pvR 6 0 116]) [pvR 0 0 v4.2, pvI y22] [pvI x2, pvI v19, pvR 6 0 116] (Or.inl rfl) dX10_cross_103 rfl rm_10_267 mtE140 rfl rfl rfl (Nat.le_of_ble_eq_true rfl) (Or.inr ⟨_, _, v4.2, rfl, Or.inl rfl⟩) k25 rfl ?_
      obtain ⟨v26, k27, h⟩ := bd h
      have k27 := l_C_withMember (d + 239) n e σ23 v19 x2 v24 _ k27
      refine go_call (kc := 122) (Mc := mt122) (v := some (pvI v26)) (w' := (true, n, e, σ23)) (pc' := 109) (st' := [pvI v26, pvR 6 0 116]) [pvI v19, pvI x2, pvI v24] [pvR 6 0 116] (Or.inr (Or.inl rfl)) dX10_cross_106 rfl rm_10_278 mtE122 rfl rfl rfl (Nat.le_of_ble_eq_true rfl) (Or.inl (by decide)) k27 rfl ?_
      obtain ⟨v28, k29, h⟩ := bd h
      have k29 := l_R_asAsked (d + 0) n e σ23 v26 _ k29
      refine go_call (kc := 109) (Mc := mt109) (v := some (pvL v28.1)) (w' := (true, n, e, v28.2)) (pc' := 112) (st' := [pvL v28.1]) [pvR 6 0 116, pvI v26] [] (Or.inl rfl) dX10_cross_109 rfl rm_10_245 mtE109 rfl rfl rfl (Nat.le_of_ble_eq_true rfl) (Or.inr ⟨_, _, 116, rfl, Or.inl rfl⟩) k29 rfl ?_
      refine go_ldc2 (pc' := 115) dX10_cross_112 rfl (r64_c rfl) rc_10_232 ?_
      refine go_lcmp (pc' := 116) dX10_cross_115 rfl ?_
      obtain ⟨j30, k31, h⟩ := bd h
      have k31J : Go none (Ev (d + 241)) mt146 122 [some (pvR 10 0 0), some (pvI x1), some (pvI x2), some (pvI x3), some (pvR 0 0 v1.2), some (pvR 0 0 v4.2), some (pvI j30), some (pvI y13), some (pvI v19), some (pvI y22)] [] (true, n, e, v28.2) out := by
        obtain ⟨g33, h⟩ := gd h
        refine go_iinc (L' := [some (pvR 10 0 0), some (pvI x1), some (pvI x2), some (pvI x3), some (pvR 0 0 v1.2), some (pvR 0 0 v4.2), some (pvI j30), some (pvI y13), some (pvI v19), some (pvI (y22 + 1))]) (pc' := 125) dX10_cross_122 rfl rfl g33 rfl ?_
        refine go_goto (t := 82) dX10_cross_125 rfl ?_
        exact ih j30 (y22 + 1) v28.2 _ h hx
      clear h
      have h := k31
      refine go_if_eq (t := 122) (pc' := 119) dX10_cross_116 rfl rfl (fun c34 => ?_) (fun c34 => ?_)
      · rw [if_pos (show (lcm v28.1 (-9223372036854775808)) = 0 from c34)] at h
        cases h
        exact k31J
      · rw [if_neg (show ¬ ((lcm v28.1 (-9223372036854775808)) = 0) from c34)] at h
        obtain ⟨g32, h⟩ := gd h
        refine go_iinc (L' := [some (pvR 10 0 0), some (pvI x1), some (pvI x2), some (pvI x3), some (pvR 0 0 v1.2), some (pvR 0 0 v4.2), some (pvI (y21 + 1)), some (pvI y13), some (pvI v19), some (pvI y22)]) (pc' := 122) dX10_cross_119 rfl rfl g32 rfl ?_
        cases h
        exact k31J

set_option maxRecDepth 10000 in
theorem l_C_cross_49 (d : Nat) (n : Nat) (e : Nat) (x1 : Int) (x2 : Int) (x3 : Int) (v1 : Nat × Nat) (v4 : Nat × Nat) {out : Out} : ∀ (F : Nat) (y12 : Int) (y13 : Int) (σ14 : Hp) (j41 : Int × Int × Hp), f_C_cross_49 x1 x2 v1 v4 F y12 y13 σ14 = some j41 → Go none (Ev (d + 241)) mt146 134 [some (pvR 10 0 0), some (pvI x1), some (pvI x2), some (pvI x3), some (pvR 0 0 v1.2), some (pvR 0 0 v4.2), some (pvI j41.1), some (pvI j41.2.1), none, none] [] (true, n, e, j41.2.2) out → Go none (Ev (d + 241)) mt146 49 [some (pvR 10 0 0), some (pvI x1), some (pvI x2), some (pvI x3), some (pvR 0 0 v1.2), some (pvR 0 0 v4.2), some (pvI y12), some (pvI y13), none, none] [] (true, n, e, σ14) out := by
  intro F
  induction F with
  | zero =>
    intro _ _ _ _ h
    intro _
    rw [f_C_cross_49] at h
    cases h
  | succ F ih =>
    intro y12 y13 σ14 j41 h hx
    rw [f_C_cross_49] at h
    refine go_iload (pc' := 51) dX10_cross_49 rfl rfl ?_
    refine go_aload (pc' := 53) dX10_cross_51 rfl rfl (Nat.le_of_ble_eq_true rfl) ?_
    refine go_getI (pc' := 56) dX10_cross_53 rfl rf_10_262 rfl ?_
    refine go_icmp_ge (t := 134) (pc' := 59) dX10_cross_56 rfl rfl (fun c40 => ?_) (fun c40 => ?_)
    · rw [if_pos (show (σ14 v1.2 2) ≤ y13 from c40)] at h
      cases h
      exact hx
    · rw [if_neg (show ¬ ((σ14 v1.2 2) ≤ y13) from c40)] at h
      refine go_aload_n (pc' := 60) dX10_cross_59 rfl rfl (Nat.le_of_ble_eq_true rfl) ?_
      refine go_getR (k' := 7) (L0 := 0) (P' := 1) (pc' := 63) dX10_cross_60 rfl rf_10_12 rfl rfl (by omega) ?_
      obtain ⟨v15, k16, h⟩ := bd h
      have k16 := l_S_chosenCell (d + 240) n e σ14 _ k16
      refine go_call (kc := 141) (Mc := mt141) (v := some (pvI v15)) (w' := (true, n, e, σ14)) (pc' := 66) (st' := [pvI v15]) [pvR 7 0 1] [] (Or.inl rfl) dX10_cross_63 rfl rm_10_275 mtE141 rfl rfl rfl (Nat.le_of_ble_eq_true rfl) (Or.inr ⟨_, _, 1, rfl, Or.inl rfl⟩) k16 rfl ?_
      refine go_iload_n (pc' := 67) dX10_cross_66 rfl rfl ?_
      refine go_aload (pc' := 69) dX10_cross_67 rfl rfl (Nat.le_of_ble_eq_true rfl) ?_
      refine go_iload (pc' := 71) dX10_cross_69 rfl rfl ?_
      obtain ⟨v17, k18, h⟩ := bd h
      have k18 := l_D_pickedAt (d + 240) n e σ14 v1.2 y13 _ k18
      refine go_call (kc := 140) (Mc := mt140) (v := some (pvI v17)) (w' := (true, n, e, σ14)) (pc' := 74) (st' := [pvI v17, pvI x1, pvI v15]) [pvR 0 0 v1.2, pvI y13] [pvI x1, pvI v15] (Or.inl rfl) dX10_cross_71 rfl rm_10_267 mtE140 rfl rfl rfl (Nat.le_of_ble_eq_true rfl) (Or.inr ⟨_, _, v1.2, rfl, Or.inl rfl⟩) k18 rfl ?_
      obtain ⟨v19, k20, h⟩ := bd h
      have k20 := l_C_withMember (d + 239) n e σ14 v15 x1 v17 _ k20
      refine go_call (kc := 122) (Mc := mt122) (v := some (pvI v19)) (w' := (true, n, e, σ14)) (pc' := 77) (st' := [pvI v19]) [pvI v15, pvI x1, pvI v17] [] (Or.inr (Or.inl rfl)) dX10_cross_74 rfl rm_10_278 mtE122 rfl rfl rfl (Nat.le_of_ble_eq_true rfl) (Or.inl (by decide)) k20 rfl ?_
      refine go_istore (L' := [some (pvR 10 0 0), some (pvI x1), some (pvI x2), some (pvI x3), some (pvR 0 0 v1.2), some (pvR 0 0 v4.2), some (pvI y12), some (pvI y13), some (pvI v19), none]) (pc' := 79) dX10_cross_77 rfl (Nat.le_of_ble_eq_true rfl) rfl ?_
      refine go_iconst (pc' := 80) dX10_cross_79 rfl (r32_c rfl) ?_
      refine go_istore (L' := [some (pvR 10 0 0), some (pvI x1), some (pvI x2), some (pvI x3), some (pvR 0 0 v1.2), some (pvR 0 0 v4.2), some (pvI y12), some (pvI y13), some (pvI v19), some (pvI 0)]) (pc' := 82) dX10_cross_80 rfl (Nat.le_of_ble_eq_true rfl) rfl ?_
      obtain ⟨j37, k38, h⟩ := bd h
      refine l_C_cross_82 d n e x1 x2 x3 v1 v4 v19 y13 zFuel y12 0 σ14 _ k38 ?_
      obtain ⟨g39, h⟩ := gd h
      refine go_iinc (L' := [some (pvR 10 0 0), some (pvI x1), some (pvI x2), some (pvI x3), some (pvR 0 0 v1.2), some (pvR 0 0 v4.2), some (pvI j37.1), some (pvI (y13 + 1)), some (pvI v19), some (pvI j37.2.1)]) (pc' := 131) dX10_cross_128 rfl rfl g39 rfl ?_
      refine go_goto (t := 49) dX10_cross_131 rfl ?_
      exact go_sub (ih j37.1 (y13 + 1) j37.2.2 _ h hx) ⟨Or.inr rfl, Or.inr rfl, Or.inr rfl, Or.inr rfl, Or.inr rfl, Or.inr rfl, Or.inr rfl, Or.inr rfl, Or.inl rfl, Or.inl rfl, trivial⟩

set_option maxRecDepth 10000 in
theorem l_C_cross (d : Nat) (n e : Nat) (σ : Hp) (x1 : Int) (x2 : Int) (x3 : Int) (r : Nat × Int × Hp) (h : f_C_cross σ x1 x2 x3 = some r) : Ev (d + 242) 146 [pvR 10 0 0, pvI x1, pvI x2, pvI x3] (true, n, e, σ) (r.1, if r.1 = 0 then some (pvI r.2.1) else none, true, n, e + if r.1 = 0 then 0 else 1, r.2.2) := by
  unfold f_C_cross at h
  refine Ev.of mtE146 rfl rfl rfl rfl ?_
  show Go none (Ev (d + 241)) mt146 0 [some (pvR 10 0 0), some (pvI x1), some (pvI x2), some (pvI x3), none, none, none, none, none, none] [] (true, n, e, σ) (r.1, if r.1 = 0 then some (pvI r.2.1) else none, true, n, e + if r.1 = 0 then 0 else 1, r.2.2)
  refine go_aload_n (pc' := 1) dX10_cross_0 rfl rfl (Nat.le_of_ble_eq_true rfl) ?_
  refine go_iload_n (pc' := 2) dX10_cross_1 rfl rfl ?_
  obtain ⟨v1, k2, h⟩ := bd h
  by_cases c3 : v1.1 = 0
  · rw [if_pos c3] at h
    have k2 := l_C_existing (d + 239) n e σ x1 _ k2
    rw [c3] at k2
    refine go_call (kc := 20) (Mc := mt20) (v := some (pvR 0 0 v1.2)) (w' := (true, n, e, σ)) (pc' := 5) (st' := [pvR 0 0 v1.2]) [pvR 10 0 0, pvI x1] [] (Or.inl rfl) dX10_cross_2 rfl rm_10_62 mtE20 rfl rfl rfl (Nat.le_of_ble_eq_true rfl) (Or.inr ⟨_, _, 0, rfl, Or.inl rfl⟩) k2 rfl ?_
    refine go_astore (L' := [some (pvR 10 0 0), some (pvI x1), some (pvI x2), some (pvI x3), some (pvR 0 0 v1.2), none, none, none, none, none]) (pc' := 7) dX10_cross_5 rfl (Nat.le_of_ble_eq_true rfl) (Nat.le_of_ble_eq_true rfl) rfl ?_
    refine go_aload_n (pc' := 8) dX10_cross_7 rfl rfl (Nat.le_of_ble_eq_true rfl) ?_
    refine go_iload_n (pc' := 9) dX10_cross_8 rfl rfl ?_
    obtain ⟨v4, k5, h⟩ := bd h
    by_cases c6 : v4.1 = 0
    · rw [if_pos c6] at h
      have k5 := l_C_existing (d + 239) n e σ x2 _ k5
      rw [c6] at k5
      refine go_call (kc := 20) (Mc := mt20) (v := some (pvR 0 0 v4.2)) (w' := (true, n, e, σ)) (pc' := 12) (st' := [pvR 0 0 v4.2]) [pvR 10 0 0, pvI x2] [] (Or.inl rfl) dX10_cross_9 rfl rm_10_62 mtE20 rfl rfl rfl (Nat.le_of_ble_eq_true rfl) (Or.inr ⟨_, _, 0, rfl, Or.inl rfl⟩) k5 rfl ?_
      refine go_astore (L' := [some (pvR 10 0 0), some (pvI x1), some (pvI x2), some (pvI x3), some (pvR 0 0 v1.2), some (pvR 0 0 v4.2), none, none, none, none]) (pc' := 14) dX10_cross_12 rfl (Nat.le_of_ble_eq_true rfl) (Nat.le_of_ble_eq_true rfl) rfl ?_
      refine go_aload_n (pc' := 15) dX10_cross_14 rfl rfl (Nat.le_of_ble_eq_true rfl) ?_
      refine go_iload_n (pc' := 16) dX10_cross_15 rfl rfl ?_
      obtain ⟨v7, k8, h⟩ := bd h
      by_cases c9 : v7 = 0
      · rw [if_pos c9] at h
        have k8 := l_C_needMeasure (d + 239) n e σ x3 _ k8
        rw [c9] at k8
        refine go_call (kc := 68) (Mc := mt68) (v := none) (w' := (true, n, e, σ)) (pc' := 19) (st' := []) [pvR 10 0 0, pvI x3] [] (Or.inl rfl) dX10_cross_16 rfl rm_10_193 mtE68 rfl rfl rfl (Nat.le_of_ble_eq_true rfl) (Or.inr ⟨_, _, 0, rfl, Or.inl rfl⟩) k8 rfl ?_
        refine go_iload_n (pc' := 20) dX10_cross_19 rfl rfl ?_
        refine go_iload_n (pc' := 21) dX10_cross_20 rfl rfl ?_
        refine go_icmp_ne (t := 35) (pc' := 24) dX10_cross_21 rfl rfl (fun c44 => ?_) (fun c44 => ?_)
        · rw [if_pos (show x1 ≠ x2 from c44)] at h
          refine go_aload_n (pc' := 36) dX10_cross_35 rfl rfl (Nat.le_of_ble_eq_true rfl) ?_
          refine go_getR (k' := 6) (L0 := 0) (P' := 116) (pc' := 39) dX10_cross_36 rfl rf_10_51 rfl rfl (by omega) ?_
          refine go_iload_n (pc' := 40) dX10_cross_39 rfl rfl ?_
          obtain ⟨v10, k11, h⟩ := bd h
          have k11 := l_R_begins (d + 240) n e σ x3 _ k11
          refine go_call (kc := 108) (Mc := mt108) (v := none) (w' := (true, n, e, v10)) (pc' := 43) (st' := []) [pvR 6 0 116, pvI x3] [] (Or.inl rfl) dX10_cross_40 rfl rm_10_242 mtE108 rfl rfl rfl (Nat.le_of_ble_eq_true rfl) (Or.inr ⟨_, _, 116, rfl, Or.inl rfl⟩) k11 rfl ?_
          refine go_iconst (pc' := 44) dX10_cross_43 rfl (r32_c rfl) ?_
          refine go_istore (L' := [some (pvR 10 0 0), some (pvI x1), some (pvI x2), some (pvI x3), some (pvR 0 0 v1.2), some (pvR 0 0 v4.2), some (pvI 0), none, none, none]) (pc' := 46) dX10_cross_44 rfl (Nat.le_of_ble_eq_true rfl) rfl ?_
          refine go_iconst (pc' := 47) dX10_cross_46 rfl (r32_c rfl) ?_
          refine go_istore (L' := [some (pvR 10 0 0), some (pvI x1), some (pvI x2), some (pvI x3), some (pvR 0 0 v1.2), some (pvR 0 0 v4.2), some (pvI 0), some (pvI 0), none, none]) (pc' := 49) dX10_cross_47 rfl (Nat.le_of_ble_eq_true rfl) rfl ?_
          obtain ⟨j42, k43, h⟩ := bd h
          refine l_C_cross_49 d n e x1 x2 x3 v1 v4 zFuel 0 0 v10 _ k43 ?_
          refine go_iload (pc' := 136) dX10_cross_134 rfl rfl ?_
          cases h
          exact go_iret dX10_cross_136 rfl rfl
        · rw [if_neg (show ¬ (x1 ≠ x2) from c44)] at h
          cases h
          exact go_throw (x := 2) (ic := 274) (ln := 3) (tx := "both dimensions are the same") dX10_cross_24 rt_10_270 rfl rfl (Nat.le_of_ble_eq_true rfl) dX10_cross_27 (Or.inr ⟨dX10_cross_28, rfl⟩) dX10_cross_31 dX10_cross_34 (Or.inr (Or.inl ⟨rfl, rfl⟩)) (by decide +kernel) rfl
      · rw [if_neg c9] at h
        obtain ⟨g45, h⟩ := gd h
        cases h
        have k8 := l_C_needMeasure (d + 239) n e σ x3 _ k8
        simp only [if_neg c9] at k8 ⊢
        exact go_callX (kc := 68) (Mc := mt68) [pvR 10 0 0, pvI x3] [] (Or.inl rfl) dX10_cross_16 rm_10_193 mtE68 rfl rfl rfl (Nat.le_of_ble_eq_true rfl) (Or.inr ⟨_, _, 0, rfl, Or.inl rfl⟩) rfl c9 g45 k8 rfl
    · rw [if_neg c6] at h
      obtain ⟨g46, h⟩ := gd h
      cases h
      have k5 := l_C_existing (d + 239) n e σ x2 _ k5
      simp only [if_neg c6] at k5 ⊢
      exact go_callX (kc := 20) (Mc := mt20) [pvR 10 0 0, pvI x2] [] (Or.inl rfl) dX10_cross_9 rm_10_62 mtE20 rfl rfl rfl (Nat.le_of_ble_eq_true rfl) (Or.inr ⟨_, _, 0, rfl, Or.inl rfl⟩) rfl c6 g46 k5 rfl
  · rw [if_neg c3] at h
    obtain ⟨g47, h⟩ := gd h
    cases h
    have k2 := l_C_existing (d + 239) n e σ x1 _ k2
    simp only [if_neg c3] at k2 ⊢
    exact go_callX (kc := 20) (Mc := mt20) [pvR 10 0 0, pvI x1] [] (Or.inl rfl) dX10_cross_2 rm_10_62 mtE20 rfl rfl rfl (Nat.le_of_ble_eq_true rfl) (Or.inr ⟨_, _, 0, rfl, Or.inl rfl⟩) rfl c3 g47 k2 rfl

set_option maxRecDepth 10000 in
theorem l_L_cross (d : Nat) (n e : Nat) (σ : Hp) (x2 : Int) (x3 : Int) (x4 : Int) (r : Int × Nat × Hp) (h : f_L_cross σ e x2 x3 x4 = some r) : Ev (d + 243) 145 [pvR 10 0 0, pvI x2, pvI x3, pvI x4, pvR 13 1 170] (true, n, e, σ) (0, some (pvI r.1), true, n, r.2.1, r.2.2) := by
  unfold f_L_cross at h
  refine Ev.of mtE145 rfl rfl rfl rfl ?_
  show Go none (Ev (d + 242)) mt145 0 [some (pvR 10 0 0), some (pvI x2), some (pvI x3), some (pvI x4), some (pvR 13 1 170), none] [] (true, n, e, σ) (0, some (pvI r.1), true, n, r.2.1, r.2.2)
  refine go_aload (pc' := 2) dL_cross_0 rfl rfl (Nat.le_of_ble_eq_true rfl) ?_
  refine go_iconst (pc' := 3) dL_cross_2 rfl (r32_c rfl) ?_
  refine go_aload_n (pc' := 4) dL_cross_3 rfl rfl (Nat.le_of_ble_eq_true rfl) ?_
  refine go_iload_n (pc' := 5) dL_cross_4 rfl rfl ?_
  refine go_iload_n (pc' := 6) dL_cross_5 rfl rfl ?_
  refine go_iload_n (pc' := 7) dL_cross_6 rfl rfl ?_
  obtain ⟨v1, k2, h⟩ := bd h
  by_cases c3 : v1.1 = 0
  · rw [if_pos c3] at h
    have k2 := l_C_cross (d + 0) n e σ x2 x3 x4 _ k2
    rw [c3] at k2
    refine go_call (kc := 146) (Mc := mt146) (v := some (pvI v1.2.1)) (w' := (true, n, e, v1.2.2)) (pc' := 10) (st' := [pvI v1.2.1, pvI 0, pvR 13 1 170]) [pvR 10 0 0, pvI x2, pvI x3, pvI x4] [pvI 0, pvR 13 1 170] (Or.inl rfl) dL_cross_7 rfl rm_12_69 mtE146 rfl rfl rfl (Nat.le_of_ble_eq_true rfl) (Or.inr ⟨_, _, 0, rfl, Or.inl rfl⟩) k2 rfl ?_
    refine go_i2l (pc' := 11) dL_cross_10 rfl ?_
    obtain ⟨g4, h⟩ := gd h
    refine go_last (pc' := 12) dL_cross_11 rfl g4 ?_
    refine go_goto (t := 23) dL_cross_12 rfl ?_
    refine go_iconst (pc' := 24) dL_cross_23 rfl (r32_c rfl) ?_
    cases h
    exact go_iret dL_cross_24 rfl rfl
  · rw [if_neg c3] at h
    by_cases c5 : v1.1 = 1
    · rw [if_pos c5] at h
      have k2 := l_C_cross (d + 0) n e σ x2 x3 x4 _ k2
      rw [c5] at k2
      refine go_callH (x := 1) (kc := 146) (Mc := mt146) (h := 15) (i := 5) (ln := 2) (w' := (true, n, (e + 1), v1.2.2)) (pc' := 17) (L' := [some (pvR 10 0 0), some (pvI x2), some (pvI x3), some (pvI x4), some (pvR 13 1 170), none]) [pvR 10 0 0, pvI x2, pvI x3, pvI x4] [pvI 0, pvR 13 1 170] (Or.inl rfl) dL_cross_7 rm_12_69 mtE146 rfl rfl rfl (Nat.le_of_ble_eq_true rfl) (Or.inr ⟨_, _, 0, rfl, Or.inl rfl⟩) (by decide +kernel) (by decide) (by decide) (Or.inl ⟨dL_cross_15, rfl⟩) (Nat.le_of_ble_eq_true rfl) rfl rfl k2 ?_
      refine go_iconst (pc' := 18) dL_cross_17 rfl (r32_c rfl) ?_
      cases h
      exact go_iret dL_cross_18 rfl rfl
    · rw [if_neg c5] at h
      by_cases c6 : v1.1 = 2
      · rw [if_pos c6] at h
        have k2 := l_C_cross (d + 0) n e σ x2 x3 x4 _ k2
        rw [c6] at k2
        refine go_callH (x := 2) (kc := 146) (Mc := mt146) (h := 19) (i := 5) (ln := 2) (w' := (true, n, (e + 1), v1.2.2)) (pc' := 21) (L' := [some (pvR 10 0 0), some (pvI x2), some (pvI x3), some (pvI x4), some (pvR 13 1 170), none]) [pvR 10 0 0, pvI x2, pvI x3, pvI x4] [pvI 0, pvR 13 1 170] (Or.inl rfl) dL_cross_7 rm_12_69 mtE146 rfl rfl rfl (Nat.le_of_ble_eq_true rfl) (Or.inr ⟨_, _, 0, rfl, Or.inl rfl⟩) (by decide +kernel) (by decide) (by decide) (Or.inl ⟨dL_cross_19, rfl⟩) (Nat.le_of_ble_eq_true rfl) rfl rfl k2 ?_
        refine go_iconst (pc' := 22) dL_cross_21 rfl (r32_c rfl) ?_
        cases h
        exact go_iret dL_cross_22 rfl rfl
      · rw [if_neg c6] at h
        cases h

