/-! ===== links: each function is what its bytecode does ===== -/
set_option maxRecDepth 10000 in
theorem l_M_put (d : Nat) (n e : Nat) (σ : Hp) (x1 : Int) (x2 : Int) (x3 : Int) (x4 : Int) (x5 : Int) (x6 : Int) (r : Int × Hp) (h : f_M_put σ x1 x2 x3 x4 x5 x6 = some r) : Ev (d + 6) 198 [pvR 11 0 129, pvI x1, pvI x2, pvI x3, pvI x4, pvI x5, pvI x6] (true, n, e, σ) (0, some (pvI r.1), true, n, e, r.2) := by
  unfold f_M_put at h
  refine Ev.of mtE198 rfl rfl rfl rfl ?_
  show Go none (Ev (d + 5)) mt198 0 [some (pvR 11 0 129), some (pvI x1), some (pvI x2), some (pvI x3), some (pvI x4), some (pvI x5), some (pvI x6), none] [] (true, n, e, σ) (0, some (pvI r.1), true, n, e, r.2)
  refine go_iload_n (pc' := 1) dX11_put_0 rfl rfl ?_
  refine go_if_lt (t := 17) (pc' := 4) dX11_put_1 rfl rfl (fun c28 => ?_) (fun c28 => ?_)
  · rw [if_pos (show x1 < 0 from c28)] at h
    refine go_iload_n (pc' := 18) dX11_put_17 rfl rfl ?_
    obtain ⟨j1, k2, h⟩ := bd h
    have k2J : Go none (Ev (d + 5)) mt198 29 [some (pvR 11 0 129), some (pvI x1), some (pvI x2), some (pvI x3), some (pvI x4), some (pvI x5), some (pvI x6), none] [pvI j1] (true, n, e, σ) (0, some (pvI r.1), true, n, e, r.2) := by
      refine go_istore (L' := [some (pvR 11 0 129), some (pvI x1), some (pvI x2), some (pvI x3), some (pvI x4), some (pvI x5), some (pvI x6), some (pvI j1)]) (pc' := 31) dX11_put_29 rfl (Nat.le_of_ble_eq_true rfl) rfl ?_
      refine go_aload_n (pc' := 32) dX11_put_31 rfl rfl (Nat.le_of_ble_eq_true rfl) ?_
      refine go_iload (pc' := 34) dX11_put_32 rfl rfl ?_
      refine go_iload_n (pc' := 35) dX11_put_34 rfl rfl ?_
      refine go_iload_n (pc' := 36) dX11_put_35 rfl rfl ?_
      refine go_iload (pc' := 38) dX11_put_36 rfl rfl ?_
      refine go_iload (pc' := 40) dX11_put_38 rfl rfl ?_
      refine go_iload (pc' := 42) dX11_put_40 rfl rfl ?_
      obtain ⟨v3, k4, h⟩ := bd h
      have k4 := l_M_lay (d + 4) n e σ j1 x2 x3 x4 x5 x6 _ k4
      refine go_call (kc := 199) (Mc := mt199) (v := none) (w' := (true, n, e, v3)) (pc' := 45) (st' := []) [pvR 11 0 129, pvI j1, pvI x2, pvI x3, pvI x4, pvI x5, pvI x6] [] (Or.inl rfl) dX11_put_42 rfl rm_11_245 mtE199 rfl rfl rfl (Nat.le_of_ble_eq_true rfl) (Or.inr ⟨_, _, 129, rfl, Or.inl rfl⟩) k4 rfl ?_
      refine go_aload_n (pc' := 46) dX11_put_45 rfl rfl (Nat.le_of_ble_eq_true rfl) ?_
      refine go_dup (pc' := 47) dX11_put_46 rfl (Nat.ne_of_beq_eq_false rfl) ?_
      refine go_getI (pc' := 50) dX11_put_47 rfl rf_11_230 rfl ?_
      refine go_iload_n (pc' := 51) dX11_put_50 rfl rfl ?_
      obtain ⟨j5, k6, h⟩ := bd h
      have k6J : Go none (Ev (d + 5)) mt198 59 [some (pvR 11 0 129), some (pvI x1), some (pvI x2), some (pvI x3), some (pvI x4), some (pvI x5), some (pvI x6), some (pvI j1)] [pvI j5, pvI (v3 129 29), pvR 11 0 129] (true, n, e, v3) (0, some (pvI r.1), true, n, e, r.2) := by
        obtain ⟨g7, h⟩ := gd h
        refine go_iadd (pc' := 60) dX11_put_59 rfl g7 ?_
        refine go_putI (pc' := 63) dX11_put_60 rfl rf_11_230 rfl ?_
        refine go_aload_n (pc' := 64) dX11_put_63 rfl rfl (Nat.le_of_ble_eq_true rfl) ?_
        refine go_iload (pc' := 66) dX11_put_64 rfl rfl ?_
        obtain ⟨v8, k9, h⟩ := bd h
        have k9 := l_M_drop (d + 0) n e (hset v3 129 29 ((v3 129 29) + j5)) j1 _ k9
        refine go_call (kc := 200) (Mc := mt200) (v := none) (w' := (true, n, e, v8)) (pc' := 69) (st' := []) [pvR 11 0 129, pvI j1] [] (Or.inl rfl) dX11_put_66 rfl rm_11_249 mtE200 rfl rfl rfl (Nat.le_of_ble_eq_true rfl) (Or.inr ⟨_, _, 129, rfl, Or.inl rfl⟩) k9 rfl ?_
        refine go_iconst (pc' := 70) dX11_put_69 rfl (r32_c rfl) ?_
        obtain ⟨g10, h⟩ := gd h
        cases h
        exact go_zret dX11_put_70 rfl g10 rfl
      clear h
      have h := k6
      refine go_if_ge (t := 58) (pc' := 54) dX11_put_51 rfl rfl (fun c11 => ?_) (fun c11 => ?_)
      · rw [if_pos (show 0 ≤ x1 from c11)] at h
        refine go_iconst (pc' := 59) dX11_put_58 rfl (r32_c rfl) ?_
        cases h
        exact k6J
      · rw [if_neg (show ¬ (0 ≤ x1) from c11)] at h
        refine go_iconst (pc' := 55) dX11_put_54 rfl (r32_c rfl) ?_
        refine go_goto (t := 59) dX11_put_55 rfl ?_
        cases h
        exact k6J
    clear h
    have h := k2
    refine go_if_ge (t := 28) (pc' := 21) dX11_put_18 rfl rfl (fun c12 => ?_) (fun c12 => ?_)
    · rw [if_pos (show 0 ≤ x1 from c12)] at h
      refine go_iload_n (pc' := 29) dX11_put_28 rfl rfl ?_
      cases h
      exact k2J
    · rw [if_neg (show ¬ (0 ≤ x1) from c12)] at h
      refine go_aload_n (pc' := 22) dX11_put_21 rfl rfl (Nat.le_of_ble_eq_true rfl) ?_
      refine go_getI (pc' := 25) dX11_put_22 rfl rf_11_230 rfl ?_
      refine go_goto (t := 29) dX11_put_25 rfl ?_
      cases h
      exact k2J
  · rw [if_neg (show ¬ (x1 < 0) from c28)] at h
    refine go_aload_n (pc' := 5) dX11_put_4 rfl rfl (Nat.le_of_ble_eq_true rfl) ?_
    refine go_getR (k' := 12) (L0 := 51) (P' := 154) (pc' := 8) dX11_put_5 rfl rf_11_84 rfl rfl (by omega) ?_
    refine go_iload_n (pc' := 9) dX11_put_8 rfl rfl ?_
    obtain ⟨g13, h⟩ := gd h
    refine go_iald (pc' := 10) dX11_put_9 rfl g13 ?_
    refine go_iload (pc' := 12) dX11_put_10 rfl rfl ?_
    refine go_icmp_ne (t := 17) (pc' := 15) dX11_put_12 rfl rfl (fun c27 => ?_) (fun c27 => ?_)
    · rw [if_pos (show (σ 154 x1) ≠ x6 from c27)] at h
      refine go_iload_n (pc' := 18) dX11_put_17 rfl rfl ?_
      obtain ⟨j14, k15, h⟩ := bd h
      have k15J : Go none (Ev (d + 5)) mt198 29 [some (pvR 11 0 129), some (pvI x1), some (pvI x2), some (pvI x3), some (pvI x4), some (pvI x5), some (pvI x6), none] [pvI j14] (true, n, e, σ) (0, some (pvI r.1), true, n, e, r.2) := by
        refine go_istore (L' := [some (pvR 11 0 129), some (pvI x1), some (pvI x2), some (pvI x3), some (pvI x4), some (pvI x5), some (pvI x6), some (pvI j14)]) (pc' := 31) dX11_put_29 rfl (Nat.le_of_ble_eq_true rfl) rfl ?_
        refine go_aload_n (pc' := 32) dX11_put_31 rfl rfl (Nat.le_of_ble_eq_true rfl) ?_
        refine go_iload (pc' := 34) dX11_put_32 rfl rfl ?_
        refine go_iload_n (pc' := 35) dX11_put_34 rfl rfl ?_
        refine go_iload_n (pc' := 36) dX11_put_35 rfl rfl ?_
        refine go_iload (pc' := 38) dX11_put_36 rfl rfl ?_
        refine go_iload (pc' := 40) dX11_put_38 rfl rfl ?_
        refine go_iload (pc' := 42) dX11_put_40 rfl rfl ?_
        obtain ⟨v16, k17, h⟩ := bd h
        have k17 := l_M_lay (d + 4) n e σ j14 x2 x3 x4 x5 x6 _ k17
        refine go_call (kc := 199) (Mc := mt199) (v := none) (w' := (true, n, e, v16)) (pc' := 45) (st' := []) [pvR 11 0 129, pvI j14, pvI x2, pvI x3, pvI x4, pvI x5, pvI x6] [] (Or.inl rfl) dX11_put_42 rfl rm_11_245 mtE199 rfl rfl rfl (Nat.le_of_ble_eq_true rfl) (Or.inr ⟨_, _, 129, rfl, Or.inl rfl⟩) k17 rfl ?_
        refine go_aload_n (pc' := 46) dX11_put_45 rfl rfl (Nat.le_of_ble_eq_true rfl) ?_
        refine go_dup (pc' := 47) dX11_put_46 rfl (Nat.ne_of_beq_eq_false rfl) ?_
        refine go_getI (pc' := 50) dX11_put_47 rfl rf_11_230 rfl ?_
        refine go_iload_n (pc' := 51) dX11_put_50 rfl rfl ?_
        obtain ⟨j18, k19, h⟩ := bd h
        have k19J : Go none (Ev (d + 5)) mt198 59 [some (pvR 11 0 129), some (pvI x1), some (pvI x2), some (pvI x3), some (pvI x4), some (pvI x5), some (pvI x6), some (pvI j14)] [pvI j18, pvI (v16 129 29), pvR 11 0 129] (true, n, e, v16) (0, some (pvI r.1), true, n, e, r.2) := by
          obtain ⟨g20, h⟩ := gd h
          refine go_iadd (pc' := 60) dX11_put_59 rfl g20 ?_
          refine go_putI (pc' := 63) dX11_put_60 rfl rf_11_230 rfl ?_
          refine go_aload_n (pc' := 64) dX11_put_63 rfl rfl (Nat.le_of_ble_eq_true rfl) ?_
          refine go_iload (pc' := 66) dX11_put_64 rfl rfl ?_
          obtain ⟨v21, k22, h⟩ := bd h
          have k22 := l_M_drop (d + 0) n e (hset v16 129 29 ((v16 129 29) + j18)) j14 _ k22
          refine go_call (kc := 200) (Mc := mt200) (v := none) (w' := (true, n, e, v21)) (pc' := 69) (st' := []) [pvR 11 0 129, pvI j14] [] (Or.inl rfl) dX11_put_66 rfl rm_11_249 mtE200 rfl rfl rfl (Nat.le_of_ble_eq_true rfl) (Or.inr ⟨_, _, 129, rfl, Or.inl rfl⟩) k22 rfl ?_
          refine go_iconst (pc' := 70) dX11_put_69 rfl (r32_c rfl) ?_
          obtain ⟨g23, h⟩ := gd h
          cases h
          exact go_zret dX11_put_70 rfl g23 rfl
        clear h
        have h := k19
        refine go_if_ge (t := 58) (pc' := 54) dX11_put_51 rfl rfl (fun c24 => ?_) (fun c24 => ?_)
        · rw [if_pos (show 0 ≤ x1 from c24)] at h
          refine go_iconst (pc' := 59) dX11_put_58 rfl (r32_c rfl) ?_
          cases h
          exact k19J
        · rw [if_neg (show ¬ (0 ≤ x1) from c24)] at h
          refine go_iconst (pc' := 55) dX11_put_54 rfl (r32_c rfl) ?_
          refine go_goto (t := 59) dX11_put_55 rfl ?_
          cases h
          exact k19J
      clear h
      have h := k15
      refine go_if_ge (t := 28) (pc' := 21) dX11_put_18 rfl rfl (fun c25 => ?_) (fun c25 => ?_)
      · rw [if_pos (show 0 ≤ x1 from c25)] at h
        refine go_iload_n (pc' := 29) dX11_put_28 rfl rfl ?_
        cases h
        exact k15J
      · rw [if_neg (show ¬ (0 ≤ x1) from c25)] at h
        refine go_aload_n (pc' := 22) dX11_put_21 rfl rfl (Nat.le_of_ble_eq_true rfl) ?_
        refine go_getI (pc' := 25) dX11_put_22 rfl rf_11_230 rfl ?_
        refine go_goto (t := 29) dX11_put_25 rfl ?_
        cases h
        exact k15J
    · rw [if_neg (show ¬ ((σ 154 x1) ≠ x6) from c27)] at h
      refine go_iconst (pc' := 16) dX11_put_15 rfl (r32_c rfl) ?_
      obtain ⟨g26, h⟩ := gd h
      cases h
      exact go_zret dX11_put_16 rfl g26 rfl

set_option maxRecDepth 10000 in
theorem l_M_fact (d : Nat) (n e : Nat) (σ : Hp) (x1 : Int) (x2 : Int) (x3 : Int) (x4 : Int) (x5 : Int) (r : Int × Hp) (h : f_M_fact σ x1 x2 x3 x4 x5 = some r) : Ev (d + 7) 195 [pvR 11 0 129, pvI x1, pvI x2, pvI x3, pvI x4, pvI x5] (true, n, e, σ) (0, some (pvI r.1), true, n, e, r.2) := by
  unfold f_M_fact at h
  refine Ev.of mtE195 rfl rfl rfl rfl ?_
  show Go none (Ev (d + 6)) mt195 0 [some (pvR 11 0 129), some (pvI x1), some (pvI x2), some (pvI x3), some (pvI x4), some (pvI x5), none, none, none] [] (true, n, e, σ) (0, some (pvI r.1), true, n, e, r.2)
  refine go_aload_n (pc' := 1) dX11_fact_0 rfl rfl (Nat.le_of_ble_eq_true rfl) ?_
  refine go_iload_n (pc' := 2) dX11_fact_1 rfl rfl ?_
  refine go_iload_n (pc' := 3) dX11_fact_2 rfl rfl ?_
  refine go_iload_n (pc' := 4) dX11_fact_3 rfl rfl ?_
  refine go_iload (pc' := 6) dX11_fact_4 rfl rfl ?_
  obtain ⟨v1, k2, h⟩ := bd h
  have k2 := l_M_areThere (d + 2) n e σ x1 x2 x3 x4 _ k2
  refine go_call (kc := 196) (Mc := mt196) (v := some (pvI v1)) (w' := (true, n, e, σ)) (pc' := 9) (st' := [pvI v1]) [pvR 11 0 129, pvI x1, pvI x2, pvI x3, pvI x4] [] (Or.inl rfl) dX11_fact_6 rfl rm_11_233 mtE196 rfl rfl rfl (Nat.le_of_ble_eq_true rfl) (Or.inr ⟨_, _, 129, rfl, Or.inl rfl⟩) k2 rfl ?_
  refine go_istore (L' := [some (pvR 11 0 129), some (pvI x1), some (pvI x2), some (pvI x3), some (pvI x4), some (pvI x5), some (pvI v1), none, none]) (pc' := 11) dX11_fact_9 rfl (Nat.le_of_ble_eq_true rfl) rfl ?_
  refine go_iload (pc' := 13) dX11_fact_11 rfl rfl ?_
  obtain ⟨j3, k4, h⟩ := bd h
  have k4J : Go none (Ev (d + 6)) mt195 29 [some (pvR 11 0 129), some (pvI x1), some (pvI x2), some (pvI x3), some (pvI x4), some (pvI x5), some (pvI v1), none, none] [pvI j3] (true, n, e, σ) (0, some (pvI r.1), true, n, e, r.2) := by
    refine go_istore (L' := [some (pvR 11 0 129), some (pvI x1), some (pvI x2), some (pvI x3), some (pvI x4), some (pvI x5), some (pvI v1), some (pvI j3), none]) (pc' := 31) dX11_fact_29 rfl (Nat.le_of_ble_eq_true rfl) rfl ?_
    refine go_iload (pc' := 33) dX11_fact_31 rfl rfl ?_
    obtain ⟨j7, k8, h⟩ := bd h
    have k8J : Go none (Ev (d + 6)) mt195 93 [some (pvR 11 0 129), some (pvI x1), some (pvI x2), some (pvI x3), some (pvI x4), some (pvI x5), some (pvI v1), some (pvI j3), none] [pvI j7] (true, n, e, σ) (0, some (pvI r.1), true, n, e, r.2) := by
      refine go_istore (L' := [some (pvR 11 0 129), some (pvI x1), some (pvI x2), some (pvI x3), some (pvI x4), some (pvI x5), some (pvI v1), some (pvI j3), some (pvI j7)]) (pc' := 95) dX11_fact_93 rfl (Nat.le_of_ble_eq_true rfl) rfl ?_
      refine go_aload_n (pc' := 96) dX11_fact_95 rfl rfl (Nat.le_of_ble_eq_true rfl) ?_
      refine go_iload (pc' := 98) dX11_fact_96 rfl rfl ?_
      obtain ⟨j22, k23, h⟩ := bd h
      have k23J : Go none (Ev (d + 6)) mt195 135 [some (pvR 11 0 129), some (pvI x1), some (pvI x2), some (pvI x3), some (pvI x4), some (pvI x5), some (pvI v1), some (pvI j3), some (pvI j7)] [pvI j22, pvR 11 0 129] (true, n, e, σ) (0, some (pvI r.1), true, n, e, r.2) := by
        obtain ⟨v28, k29, h⟩ := bd h
        have k29 := l_M_holds (d + 5) n e σ j22 _ k29
        refine go_call (kc := 174) (Mc := mt174) (v := some (pvI v28.1)) (w' := (true, n, e, v28.2)) (pc' := 138) (st' := [pvI v28.1]) [pvR 11 0 129, pvI j22] [] (Or.inl rfl) dX11_fact_135 rfl rm_11_185 mtE174 rfl rfl rfl (Nat.le_of_ble_eq_true rfl) (Or.inr ⟨_, _, 129, rfl, Or.inl rfl⟩) k29 rfl ?_
        refine go_if_eq (t := 143) (pc' := 141) dX11_fact_138 rfl rfl (fun c32 => ?_) (fun c32 => ?_)
        · rw [if_pos (show v28.1 = 0 from c32)] at h
          refine go_aload_n (pc' := 144) dX11_fact_143 rfl rfl (Nat.le_of_ble_eq_true rfl) ?_
          refine go_iload (pc' := 146) dX11_fact_144 rfl rfl ?_
          refine go_iload_n (pc' := 147) dX11_fact_146 rfl rfl ?_
          refine go_iload_n (pc' := 148) dX11_fact_147 rfl rfl ?_
          refine go_iload_n (pc' := 149) dX11_fact_148 rfl rfl ?_
          refine go_iload (pc' := 151) dX11_fact_149 rfl rfl ?_
          refine go_iload (pc' := 153) dX11_fact_151 rfl rfl ?_
          obtain ⟨v30, k31, h⟩ := bd h
          have k31 := l_M_put (d + 0) n e v28.2 j3 x1 x2 x3 x4 x5 _ k31
          refine go_call (kc := 198) (Mc := mt198) (v := some (pvI v30.1)) (w' := (true, n, e, v30.2)) (pc' := 156) (st' := [pvI v30.1]) [pvR 11 0 129, pvI j3, pvI x1, pvI x2, pvI x3, pvI x4, pvI x5] [] (Or.inl rfl) dX11_fact_153 rfl rm_11_241 mtE198 rfl rfl rfl (Nat.le_of_ble_eq_true rfl) (Or.inr ⟨_, _, 129, rfl, Or.inl rfl⟩) k31 rfl ?_
          refine go_pop (pc' := 157) dX11_fact_156 rfl (Nat.ne_of_beq_eq_false rfl) ?_
          refine go_aload_n (pc' := 158) dX11_fact_157 rfl rfl (Nat.le_of_ble_eq_true rfl) ?_
          refine go_getI (pc' := 161) dX11_fact_158 rfl rf_11_230 rfl ?_
          cases h
          exact go_iret dX11_fact_161 rfl rfl
        · rw [if_neg (show ¬ (v28.1 = 0) from c32)] at h
          refine go_iconst (pc' := 142) dX11_fact_141 rfl (r32_c rfl) ?_
          cases h
          exact go_iret dX11_fact_142 rfl rfl
      clear h
      have h := k23
      refine go_if_ne (t := 105) (pc' := 101) dX11_fact_98 rfl rfl (fun c33 => ?_) (fun c33 => ?_)
      · rw [if_pos (show v1 ≠ 0 from c33)] at h
        refine go_aload_n (pc' := 106) dX11_fact_105 rfl rfl (Nat.le_of_ble_eq_true rfl) ?_
        refine go_iload (pc' := 108) dX11_fact_106 rfl rfl ?_
        refine go_i2l (pc' := 109) dX11_fact_108 rfl ?_
        refine go_ldc2 (pc' := 112) dX11_fact_109 rfl (r64_c rfl) rc_11_213 ?_
        refine go_ldc2 (pc' := 115) dX11_fact_112 rfl (r64_c rfl) rc_11_215 ?_
        obtain ⟨v24, k25, h⟩ := bd h
        have k25 := l_M_in (d + 5) n e σ x5 (-1000000) 1000000 _ k25
        refine go_call (kc := 172) (Mc := mt172) (v := some (pvI v24)) (w' := (true, n, e, σ)) (pc' := 118) (st' := [pvI v24, pvR 11 0 129]) [pvR 11 0 129, pvL x5, pvL (-1000000), pvL 1000000] [pvR 11 0 129] (Or.inl rfl) dX11_fact_115 rfl rm_11_145 mtE172 rfl rfl rfl (Nat.le_of_ble_eq_true rfl) (Or.inr ⟨_, _, 129, rfl, Or.inl rfl⟩) k25 rfl ?_
        refine go_if_ne (t := 125) (pc' := 121) dX11_fact_118 rfl rfl (fun c27 => ?_) (fun c27 => ?_)
        · rw [if_pos (show v24 ≠ 0 from c27)] at h
          refine go_iload (pc' := 127) dX11_fact_125 rfl rfl ?_
          refine go_if_eq (t := 134) (pc' := 130) dX11_fact_127 rfl rfl (fun c26 => ?_) (fun c26 => ?_)
          · rw [if_pos (show j7 = 0 from c26)] at h
            refine go_iconst (pc' := 135) dX11_fact_134 rfl (r32_c rfl) ?_
            cases h
            exact k23J
          · rw [if_neg (show ¬ (j7 = 0) from c26)] at h
            refine go_iconst (pc' := 131) dX11_fact_130 rfl (r32_c rfl) ?_
            refine go_goto (t := 135) dX11_fact_131 rfl ?_
            cases h
            exact k23J
        · rw [if_neg (show ¬ (v24 ≠ 0) from c27)] at h
          refine go_iconst (pc' := 122) dX11_fact_121 rfl (r32_c rfl) ?_
          refine go_goto (t := 135) dX11_fact_122 rfl ?_
          cases h
          exact k23J
      · rw [if_neg (show ¬ (v1 ≠ 0) from c33)] at h
        refine go_iconst (pc' := 102) dX11_fact_101 rfl (r32_c rfl) ?_
        refine go_goto (t := 135) dX11_fact_102 rfl ?_
        cases h
        exact k23J
    clear h
    have h := k8
    refine go_if_eq (t := 92) (pc' := 36) dX11_fact_33 rfl rfl (fun c34 => ?_) (fun c34 => ?_)
    · rw [if_pos (show v1 = 0 from c34)] at h
      refine go_iconst (pc' := 93) dX11_fact_92 rfl (r32_c rfl) ?_
      cases h
      exact k8J
    · rw [if_neg (show ¬ (v1 = 0) from c34)] at h
      refine go_aload_n (pc' := 37) dX11_fact_36 rfl rfl (Nat.le_of_ble_eq_true rfl) ?_
      refine go_iconst (pc' := 38) dX11_fact_37 rfl (r32_c rfl) ?_
      refine go_iload_n (pc' := 39) dX11_fact_38 rfl rfl ?_
      obtain ⟨v9, k10, h⟩ := bd h
      have k10 := l_M_isPlain (d + 5) n e σ 0 x1 _ k10
      refine go_call (kc := 173) (Mc := mt173) (v := some (pvI v9)) (w' := (true, n, e, σ)) (pc' := 42) (st' := [pvI v9]) [pvR 11 0 129, pvI 0, pvI x1] [] (Or.inl rfl) dX11_fact_39 rfl rm_11_180 mtE173 rfl rfl rfl (Nat.le_of_ble_eq_true rfl) (Or.inr ⟨_, _, 129, rfl, Or.inl rfl⟩) k10 rfl ?_
      refine go_if_eq (t := 88) (pc' := 45) dX11_fact_42 rfl rfl (fun c21 => ?_) (fun c21 => ?_)
      · rw [if_pos (show v9 = 0 from c21)] at h
        refine go_iconst (pc' := 89) dX11_fact_88 rfl (r32_c rfl) ?_
        refine go_goto (t := 93) dX11_fact_89 rfl ?_
        cases h
        exact k8J
      · rw [if_neg (show ¬ (v9 = 0) from c21)] at h
        refine go_aload_n (pc' := 46) dX11_fact_45 rfl rfl (Nat.le_of_ble_eq_true rfl) ?_
        refine go_iconst (pc' := 47) dX11_fact_46 rfl (r32_c rfl) ?_
        refine go_iload_n (pc' := 48) dX11_fact_47 rfl rfl ?_
        obtain ⟨v11, k12, h⟩ := bd h
        have k12 := l_M_isPlain (d + 5) n e σ 1 x2 _ k12
        refine go_call (kc := 173) (Mc := mt173) (v := some (pvI v11)) (w' := (true, n, e, σ)) (pc' := 51) (st' := [pvI v11]) [pvR 11 0 129, pvI 1, pvI x2] [] (Or.inl rfl) dX11_fact_48 rfl rm_11_180 mtE173 rfl rfl rfl (Nat.le_of_ble_eq_true rfl) (Or.inr ⟨_, _, 129, rfl, Or.inl rfl⟩) k12 rfl ?_
        refine go_if_eq (t := 88) (pc' := 54) dX11_fact_51 rfl rfl (fun c20 => ?_) (fun c20 => ?_)
        · rw [if_pos (show v11 = 0 from c20)] at h
          refine go_iconst (pc' := 89) dX11_fact_88 rfl (r32_c rfl) ?_
          refine go_goto (t := 93) dX11_fact_89 rfl ?_
          cases h
          exact k8J
        · rw [if_neg (show ¬ (v11 = 0) from c20)] at h
          refine go_aload_n (pc' := 55) dX11_fact_54 rfl rfl (Nat.le_of_ble_eq_true rfl) ?_
          refine go_iconst (pc' := 56) dX11_fact_55 rfl (r32_c rfl) ?_
          refine go_iload_n (pc' := 57) dX11_fact_56 rfl rfl ?_
          obtain ⟨v13, k14, h⟩ := bd h
          have k14 := l_M_isPlain (d + 5) n e σ 2 x3 _ k14
          refine go_call (kc := 173) (Mc := mt173) (v := some (pvI v13)) (w' := (true, n, e, σ)) (pc' := 60) (st' := [pvI v13]) [pvR 11 0 129, pvI 2, pvI x3] [] (Or.inl rfl) dX11_fact_57 rfl rm_11_180 mtE173 rfl rfl rfl (Nat.le_of_ble_eq_true rfl) (Or.inr ⟨_, _, 129, rfl, Or.inl rfl⟩) k14 rfl ?_
          refine go_if_eq (t := 88) (pc' := 63) dX11_fact_60 rfl rfl (fun c19 => ?_) (fun c19 => ?_)
          · rw [if_pos (show v13 = 0 from c19)] at h
            refine go_iconst (pc' := 89) dX11_fact_88 rfl (r32_c rfl) ?_
            refine go_goto (t := 93) dX11_fact_89 rfl ?_
            cases h
            exact k8J
          · rw [if_neg (show ¬ (v13 = 0) from c19)] at h
            refine go_aload_n (pc' := 64) dX11_fact_63 rfl rfl (Nat.le_of_ble_eq_true rfl) ?_
            refine go_getR (k' := 12) (L0 := 4) (P' := 146) (pc' := 67) dX11_fact_64 rfl rf_11_60 rfl rfl (by omega) ?_
            refine go_iload (pc' := 69) dX11_fact_67 rfl rfl ?_
            obtain ⟨g15, h⟩ := gd h
            refine go_iald (pc' := 70) dX11_fact_69 rfl g15 ?_
            refine go_iconst (pc' := 71) dX11_fact_70 rfl (r32_c rfl) ?_
            refine go_icmp_eq (t := 88) (pc' := 74) dX11_fact_71 rfl rfl (fun c18 => ?_) (fun c18 => ?_)
            · rw [if_pos (show (σ 146 x4) = 3 from c18)] at h
              refine go_iconst (pc' := 89) dX11_fact_88 rfl (r32_c rfl) ?_
              refine go_goto (t := 93) dX11_fact_89 rfl ?_
              cases h
              exact k8J
            · rw [if_neg (show ¬ ((σ 146 x4) = 3) from c18)] at h
              refine go_iload (pc' := 76) dX11_fact_74 rfl rfl ?_
              refine go_if_ge (t := 92) (pc' := 79) dX11_fact_76 rfl rfl (fun c17 => ?_) (fun c17 => ?_)
              · rw [if_pos (show 0 ≤ j3 from c17)] at h
                refine go_iconst (pc' := 93) dX11_fact_92 rfl (r32_c rfl) ?_
                cases h
                exact k8J
              · rw [if_neg (show ¬ (0 ≤ j3) from c17)] at h
                refine go_aload_n (pc' := 80) dX11_fact_79 rfl rfl (Nat.le_of_ble_eq_true rfl) ?_
                refine go_getI (pc' := 83) dX11_fact_80 rfl rf_11_230 rfl ?_
                refine go_bipush (pc' := 85) dX11_fact_83 rfl (r32_c rfl) (by decide) ?_
                refine go_icmp_ne (t := 92) (pc' := 88) dX11_fact_85 rfl rfl (fun c16 => ?_) (fun c16 => ?_)
                · rw [if_pos (show (σ 129 29) ≠ 50 from c16)] at h
                  refine go_iconst (pc' := 93) dX11_fact_92 rfl (r32_c rfl) ?_
                  cases h
                  exact k8J
                · rw [if_neg (show ¬ ((σ 129 29) ≠ 50) from c16)] at h
                  refine go_iconst (pc' := 89) dX11_fact_88 rfl (r32_c rfl) ?_
                  refine go_goto (t := 93) dX11_fact_89 rfl ?_
                  cases h
                  exact k8J
  clear h
  have h := k4
  refine go_if_eq (t := 28) (pc' := 16) dX11_fact_13 rfl rfl (fun c35 => ?_) (fun c35 => ?_)
  · rw [if_pos (show v1 = 0 from c35)] at h
    refine go_iconst (pc' := 29) dX11_fact_28 rfl (r32_c rfl) ?_
    cases h
    exact k4J
  · rw [if_neg (show ¬ (v1 = 0) from c35)] at h
    refine go_aload_n (pc' := 17) dX11_fact_16 rfl rfl (Nat.le_of_ble_eq_true rfl) ?_
    refine go_iload_n (pc' := 18) dX11_fact_17 rfl rfl ?_
    refine go_iload_n (pc' := 19) dX11_fact_18 rfl rfl ?_
    refine go_iload_n (pc' := 20) dX11_fact_19 rfl rfl ?_
    refine go_iload (pc' := 22) dX11_fact_20 rfl rfl ?_
    obtain ⟨v5, k6, h⟩ := bd h
    have k6 := l_M_found (d + 5) n e σ x1 x2 x3 x4 _ k6
    refine go_call (kc := 197) (Mc := mt197) (v := some (pvI v5)) (w' := (true, n, e, σ)) (pc' := 25) (st' := [pvI v5]) [pvR 11 0 129, pvI x1, pvI x2, pvI x3, pvI x4] [] (Or.inl rfl) dX11_fact_22 rfl rm_11_237 mtE197 rfl rfl rfl (Nat.le_of_ble_eq_true rfl) (Or.inr ⟨_, _, 129, rfl, Or.inl rfl⟩) k6 rfl ?_
    refine go_goto (t := 29) dX11_fact_25 rfl ?_
    cases h
    exact k4J

set_option maxRecDepth 10000 in
theorem l_M_forget_88 (d : Nat) (n : Nat) (e : Nat) (x1 : Int) (x2 : Int) (x3 : Int) (x4 : Int) (j3 : Int) (v1 : Int) (v10 : Int × Hp) {out : Out} : ∀ (F : Nat) (y16 : Int) (σ17 : Hp) (j32 : Int × Hp), f_M_forget_88 F y16 σ17 = some j32 → Go none (Ev (d + 5)) mt206 154 [some (pvR 11 0 129), some (pvI x1), some (pvI x2), some (pvI x3), some (pvI x4), some (pvI v1), some (pvI j3), some (pvI (v10.2 154 j3)), some (pvI j32.1)] [] (true, n, e, j32.2) out → Go none (Ev (d + 5)) mt206 88 [some (pvR 11 0 129), some (pvI x1), some (pvI x2), some (pvI x3), some (pvI x4), some (pvI v1), some (pvI j3), some (pvI (v10.2 154 j3)), some (pvI y16)] [] (true, n, e, σ17) out := by
  intro F
  induction F with
  | zero =>
    intro _ _ _ h
    intro _
    rw [f_M_forget_88] at h
    cases h
  | succ F ih =>
    intro y16 σ17 j32 h hx
    rw [f_M_forget_88] at h
    refine go_iload (pc' := 90) dX11_forget_88 rfl rfl ?_
    refine go_aload_n (pc' := 91) dX11_forget_90 rfl rfl (Nat.le_of_ble_eq_true rfl) ?_
    refine go_getI (pc' := 94) dX11_forget_91 rfl rf_11_230 rfl ?_
    refine go_icmp_ge (t := 154) (pc' := 97) dX11_forget_94 rfl rfl (fun c31 => ?_) (fun c31 => ?_)
    · rw [if_pos (show (σ17 129 29) ≤ y16 from c31)] at h
      cases h
      exact hx
    · rw [if_neg (show ¬ ((σ17 129 29) ≤ y16) from c31)] at h
      refine go_aload_n (pc' := 98) dX11_forget_97 rfl rfl (Nat.le_of_ble_eq_true rfl) ?_
      refine go_iload (pc' := 100) dX11_forget_98 rfl rfl ?_
      refine go_aload_n (pc' := 101) dX11_forget_100 rfl rfl (Nat.le_of_ble_eq_true rfl) ?_
      refine go_getR (k' := 12) (L0 := 51) (P' := 150) (pc' := 104) dX11_forget_101 rfl rf_11_72 rfl rfl (by omega) ?_
      refine go_iload (pc' := 106) dX11_forget_104 rfl rfl ?_
      refine go_iconst (pc' := 107) dX11_forget_106 rfl (r32_c rfl) ?_
      obtain ⟨g18, h⟩ := gd h
      refine go_iadd (pc' := 108) dX11_forget_107 rfl g18 ?_
      obtain ⟨g19, h⟩ := gd h
      refine go_iald (pc' := 109) dX11_forget_108 rfl g19 ?_
      refine go_aload_n (pc' := 110) dX11_forget_109 rfl rfl (Nat.le_of_ble_eq_true rfl) ?_
      refine go_getR (k' := 12) (L0 := 51) (P' := 151) (pc' := 113) dX11_forget_110 rfl rf_11_75 rfl rfl (by omega) ?_
      refine go_iload (pc' := 115) dX11_forget_113 rfl rfl ?_
      refine go_iconst (pc' := 116) dX11_forget_115 rfl (r32_c rfl) ?_
      obtain ⟨g20, h⟩ := gd h
      refine go_iadd (pc' := 117) dX11_forget_116 rfl g20 ?_
      obtain ⟨g21, h⟩ := gd h
      refine go_iald (pc' := 118) dX11_forget_117 rfl g21 ?_
      refine go_aload_n (pc' := 119) dX11_forget_118 rfl rfl (Nat.le_of_ble_eq_true rfl) ?_
      refine go_getR (k' := 12) (L0 := 51) (P' := 152) (pc' := 122) dX11_forget_119 rfl rf_11_78 rfl rfl (by omega) ?_
      refine go_iload (pc' := 124) dX11_forget_122 rfl rfl ?_
      refine go_iconst (pc' := 125) dX11_forget_124 rfl (r32_c rfl) ?_
      obtain ⟨g22, h⟩ := gd h
      refine go_iadd (pc' := 126) dX11_forget_125 rfl g22 ?_
      obtain ⟨g23, h⟩ := gd h
      refine go_iald (pc' := 127) dX11_forget_126 rfl g23 ?_
      refine go_aload_n (pc' := 128) dX11_forget_127 rfl rfl (Nat.le_of_ble_eq_true rfl) ?_
      refine go_getR (k' := 12) (L0 := 51) (P' := 153) (pc' := 131) dX11_forget_128 rfl rf_11_81 rfl rfl (by omega) ?_
      refine go_iload (pc' := 133) dX11_forget_131 rfl rfl ?_
      refine go_iconst (pc' := 134) dX11_forget_133 rfl (r32_c rfl) ?_
      obtain ⟨g24, h⟩ := gd h
      refine go_iadd (pc' := 135) dX11_forget_134 rfl g24 ?_
      obtain ⟨g25, h⟩ := gd h
      refine go_iald (pc' := 136) dX11_forget_135 rfl g25 ?_
      refine go_aload_n (pc' := 137) dX11_forget_136 rfl rfl (Nat.le_of_ble_eq_true rfl) ?_
      refine go_getR (k' := 12) (L0 := 51) (P' := 154) (pc' := 140) dX11_forget_137 rfl rf_11_84 rfl rfl (by omega) ?_
      refine go_iload (pc' := 142) dX11_forget_140 rfl rfl ?_
      refine go_iconst (pc' := 143) dX11_forget_142 rfl (r32_c rfl) ?_
      obtain ⟨g26, h⟩ := gd h
      refine go_iadd (pc' := 144) dX11_forget_143 rfl g26 ?_
      obtain ⟨g27, h⟩ := gd h
      refine go_iald (pc' := 145) dX11_forget_144 rfl g27 ?_
      obtain ⟨v28, k29, h⟩ := bd h
      have k29 := l_M_lay (d + 4) n e σ17 y16 (σ17 150 (y16 + 1)) (σ17 151 (y16 + 1)) (σ17 152 (y16 + 1)) (σ17 153 (y16 + 1)) (σ17 154 (y16 + 1)) _ k29
      refine go_call (kc := 199) (Mc := mt199) (v := none) (w' := (true, n, e, v28)) (pc' := 148) (st' := []) [pvR 11 0 129, pvI y16, pvI (σ17 150 (y16 + 1)), pvI (σ17 151 (y16 + 1)), pvI (σ17 152 (y16 + 1)), pvI (σ17 153 (y16 + 1)), pvI (σ17 154 (y16 + 1))] [] (Or.inl rfl) dX11_forget_145 rfl rm_11_245 mtE199 rfl rfl rfl (Nat.le_of_ble_eq_true rfl) (Or.inr ⟨_, _, 129, rfl, Or.inl rfl⟩) k29 rfl ?_
      obtain ⟨g30, h⟩ := gd h
      refine go_iinc (L' := [some (pvR 11 0 129), some (pvI x1), some (pvI x2), some (pvI x3), some (pvI x4), some (pvI v1), some (pvI j3), some (pvI (v10.2 154 j3)), some (pvI (y16 + 1))]) (pc' := 151) dX11_forget_148 rfl rfl g30 rfl ?_
      refine go_goto (t := 88) dX11_forget_151 rfl ?_
      exact ih (y16 + 1) v28 _ h hx

set_option maxRecDepth 10000 in
theorem l_M_forget (d : Nat) (n e : Nat) (σ : Hp) (x1 : Int) (x2 : Int) (x3 : Int) (x4 : Int) (r : Int × Hp) (h : f_M_forget σ x1 x2 x3 x4 = some r) : Ev (d + 6) 206 [pvR 11 0 129, pvI x1, pvI x2, pvI x3, pvI x4] (true, n, e, σ) (0, some (pvI r.1), true, n, e, r.2) := by
  unfold f_M_forget at h
  refine Ev.of mtE206 rfl rfl rfl rfl ?_
  show Go none (Ev (d + 5)) mt206 0 [some (pvR 11 0 129), some (pvI x1), some (pvI x2), some (pvI x3), some (pvI x4), none, none, none, none] [] (true, n, e, σ) (0, some (pvI r.1), true, n, e, r.2)
  refine go_aload_n (pc' := 1) dX11_forget_0 rfl rfl (Nat.le_of_ble_eq_true rfl) ?_
  refine go_iload_n (pc' := 2) dX11_forget_1 rfl rfl ?_
  refine go_iload_n (pc' := 3) dX11_forget_2 rfl rfl ?_
  refine go_iload_n (pc' := 4) dX11_forget_3 rfl rfl ?_
  refine go_iload (pc' := 6) dX11_forget_4 rfl rfl ?_
  obtain ⟨v1, k2, h⟩ := bd h
  have k2 := l_M_areThere (d + 1) n e σ x1 x2 x3 x4 _ k2
  refine go_call (kc := 196) (Mc := mt196) (v := some (pvI v1)) (w' := (true, n, e, σ)) (pc' := 9) (st' := [pvI v1]) [pvR 11 0 129, pvI x1, pvI x2, pvI x3, pvI x4] [] (Or.inl rfl) dX11_forget_6 rfl rm_11_233 mtE196 rfl rfl rfl (Nat.le_of_ble_eq_true rfl) (Or.inr ⟨_, _, 129, rfl, Or.inl rfl⟩) k2 rfl ?_
  refine go_istore (L' := [some (pvR 11 0 129), some (pvI x1), some (pvI x2), some (pvI x3), some (pvI x4), some (pvI v1), none, none, none]) (pc' := 11) dX11_forget_9 rfl (Nat.le_of_ble_eq_true rfl) rfl ?_
  refine go_iload (pc' := 13) dX11_forget_11 rfl rfl ?_
  obtain ⟨j3, k4, h⟩ := bd h
  have k4J : Go none (Ev (d + 5)) mt206 29 [some (pvR 11 0 129), some (pvI x1), some (pvI x2), some (pvI x3), some (pvI x4), some (pvI v1), none, none, none] [pvI j3] (true, n, e, σ) (0, some (pvI r.1), true, n, e, r.2) := by
    refine go_istore (L' := [some (pvR 11 0 129), some (pvI x1), some (pvI x2), some (pvI x3), some (pvI x4), some (pvI v1), some (pvI j3), none, none]) (pc' := 31) dX11_forget_29 rfl (Nat.le_of_ble_eq_true rfl) rfl ?_
    refine go_aload_n (pc' := 32) dX11_forget_31 rfl rfl (Nat.le_of_ble_eq_true rfl) ?_
    refine go_iload (pc' := 34) dX11_forget_32 rfl rfl ?_
    obtain ⟨j7, k8, h⟩ := bd h
    have k8J : Go none (Ev (d + 5)) mt206 51 [some (pvR 11 0 129), some (pvI x1), some (pvI x2), some (pvI x3), some (pvI x4), some (pvI v1), some (pvI j3), none, none] [pvI j7, pvR 11 0 129] (true, n, e, σ) (0, some (pvI r.1), true, n, e, r.2) := by
      obtain ⟨v10, k11, h⟩ := bd h
      have k11 := l_M_holds (d + 4) n e σ j7 _ k11
      refine go_call (kc := 174) (Mc := mt174) (v := some (pvI v10.1)) (w' := (true, n, e, v10.2)) (pc' := 54) (st' := [pvI v10.1]) [pvR 11 0 129, pvI j7] [] (Or.inl rfl) dX11_forget_51 rfl rm_11_185 mtE174 rfl rfl rfl (Nat.le_of_ble_eq_true rfl) (Or.inr ⟨_, _, 129, rfl, Or.inl rfl⟩) k11 rfl ?_
      refine go_if_eq (t := 59) (pc' := 57) dX11_forget_54 rfl rfl (fun c35 => ?_) (fun c35 => ?_)
      · rw [if_pos (show v10.1 = 0 from c35)] at h
        refine go_aload_n (pc' := 60) dX11_forget_59 rfl rfl (Nat.le_of_ble_eq_true rfl) ?_
        refine go_getR (k' := 12) (L0 := 51) (P' := 154) (pc' := 63) dX11_forget_60 rfl rf_11_84 rfl rfl (by omega) ?_
        refine go_iload (pc' := 65) dX11_forget_63 rfl rfl ?_
        obtain ⟨g12, h⟩ := gd h
        refine go_iald (pc' := 66) dX11_forget_65 rfl g12 ?_
        refine go_istore (L' := [some (pvR 11 0 129), some (pvI x1), some (pvI x2), some (pvI x3), some (pvI x4), some (pvI v1), some (pvI j3), some (pvI (v10.2 154 j3)), none]) (pc' := 68) dX11_forget_66 rfl (Nat.le_of_ble_eq_true rfl) rfl ?_
        refine go_aload_n (pc' := 69) dX11_forget_68 rfl rfl (Nat.le_of_ble_eq_true rfl) ?_
        refine go_iload (pc' := 71) dX11_forget_69 rfl rfl ?_
        obtain ⟨v13, k14, h⟩ := bd h
        have k14 := l_M_drop (d + 0) n e v10.2 j3 _ k14
        refine go_call (kc := 200) (Mc := mt200) (v := none) (w' := (true, n, e, v13)) (pc' := 74) (st' := []) [pvR 11 0 129, pvI j3] [] (Or.inl rfl) dX11_forget_71 rfl rm_11_249 mtE200 rfl rfl rfl (Nat.le_of_ble_eq_true rfl) (Or.inr ⟨_, _, 129, rfl, Or.inl rfl⟩) k14 rfl ?_
        refine go_aload_n (pc' := 75) dX11_forget_74 rfl rfl (Nat.le_of_ble_eq_true rfl) ?_
        refine go_dup (pc' := 76) dX11_forget_75 rfl (Nat.ne_of_beq_eq_false rfl) ?_
        refine go_getI (pc' := 79) dX11_forget_76 rfl rf_11_230 rfl ?_
        refine go_iconst (pc' := 80) dX11_forget_79 rfl (r32_c rfl) ?_
        obtain ⟨g15, h⟩ := gd h
        refine go_isub (pc' := 81) dX11_forget_80 rfl g15 ?_
        refine go_putI (pc' := 84) dX11_forget_81 rfl rf_11_230 rfl ?_
        refine go_iload (pc' := 86) dX11_forget_84 rfl rfl ?_
        refine go_istore (L' := [some (pvR 11 0 129), some (pvI x1), some (pvI x2), some (pvI x3), some (pvI x4), some (pvI v1), some (pvI j3), some (pvI (v10.2 154 j3)), some (pvI j3)]) (pc' := 88) dX11_forget_86 rfl (Nat.le_of_ble_eq_true rfl) rfl ?_
        obtain ⟨j33, k34, h⟩ := bd h
        refine l_M_forget_88 d n e x1 x2 x3 x4 j3 v1 v10 zFuel j3 (hset v13 129 29 ((v13 129 29) - 1)) _ k34 ?_
        refine go_iload (pc' := 156) dX11_forget_154 rfl rfl ?_
        cases h
        exact go_iret dX11_forget_156 rfl rfl
      · rw [if_neg (show ¬ (v10.1 = 0) from c35)] at h
        refine go_iconst (pc' := 58) dX11_forget_57 rfl (r32_c rfl) ?_
        cases h
        exact go_iret dX11_forget_58 rfl rfl
    clear h
    have h := k8
    refine go_if_ne (t := 41) (pc' := 37) dX11_forget_34 rfl rfl (fun c36 => ?_) (fun c36 => ?_)
    · rw [if_pos (show v1 ≠ 0 from c36)] at h
      refine go_iload (pc' := 43) dX11_forget_41 rfl rfl ?_
      refine go_if_ge (t := 50) (pc' := 46) dX11_forget_43 rfl rfl (fun c9 => ?_) (fun c9 => ?_)
      · rw [if_pos (show 0 ≤ j3 from c9)] at h
        refine go_iconst (pc' := 51) dX11_forget_50 rfl (r32_c rfl) ?_
        cases h
        exact k8J
      · rw [if_neg (show ¬ (0 ≤ j3) from c9)] at h
        refine go_iconst (pc' := 47) dX11_forget_46 rfl (r32_c rfl) ?_
        refine go_goto (t := 51) dX11_forget_47 rfl ?_
        cases h
        exact k8J
    · rw [if_neg (show ¬ (v1 ≠ 0) from c36)] at h
      refine go_iconst (pc' := 38) dX11_forget_37 rfl (r32_c rfl) ?_
      refine go_goto (t := 51) dX11_forget_38 rfl ?_
      cases h
      exact k8J
  clear h
  have h := k4
  refine go_if_eq (t := 28) (pc' := 16) dX11_forget_13 rfl rfl (fun c37 => ?_) (fun c37 => ?_)
  · rw [if_pos (show v1 = 0 from c37)] at h
    refine go_iconst (pc' := 29) dX11_forget_28 rfl (r32_c rfl) ?_
    cases h
    exact k4J
  · rw [if_neg (show ¬ (v1 = 0) from c37)] at h
    refine go_aload_n (pc' := 17) dX11_forget_16 rfl rfl (Nat.le_of_ble_eq_true rfl) ?_
    refine go_iload_n (pc' := 18) dX11_forget_17 rfl rfl ?_
    refine go_iload_n (pc' := 19) dX11_forget_18 rfl rfl ?_
    refine go_iload_n (pc' := 20) dX11_forget_19 rfl rfl ?_
    refine go_iload (pc' := 22) dX11_forget_20 rfl rfl ?_
    obtain ⟨v5, k6, h⟩ := bd h
    have k6 := l_M_found (d + 4) n e σ x1 x2 x3 x4 _ k6
    refine go_call (kc := 197) (Mc := mt197) (v := some (pvI v5)) (w' := (true, n, e, σ)) (pc' := 25) (st' := [pvI v5]) [pvR 11 0 129, pvI x1, pvI x2, pvI x3, pvI x4] [] (Or.inl rfl) dX11_forget_22 rfl rm_11_237 mtE197 rfl rfl rfl (Nat.le_of_ble_eq_true rfl) (Or.inr ⟨_, _, 129, rfl, Or.inl rfl⟩) k6 rfl ?_
    refine go_goto (t := 29) dX11_forget_25 rfl ?_
    cases h
    exact k4J

set_option maxRecDepth 10000 in
theorem l_M_areSeen (d : Nat) (n e : Nat) (σ : Hp) (x1 : Int) (x2 : Int) (x3 : Int) (r : Int) (h : f_M_areSeen σ x1 x2 x3 = some r) : Ev (d + 4) 208 [pvR 11 0 129, pvI x1, pvI x2, pvI x3] (true, n, e, σ) (0, some (pvI r), true, n, e, σ) := by
  unfold f_M_areSeen at h
  refine Ev.of mtE208 rfl rfl rfl rfl ?_
  show Go none (Ev (d + 3)) mt208 0 [some (pvR 11 0 129), some (pvI x1), some (pvI x2), some (pvI x3)] [] (true, n, e, σ) (0, some (pvI r), true, n, e, σ)
  refine go_aload_n (pc' := 1) dX11_areSeen_0 rfl rfl (Nat.le_of_ble_eq_true rfl) ?_
  refine go_iconst (pc' := 2) dX11_areSeen_1 rfl (r32_c rfl) ?_
  refine go_iload_n (pc' := 3) dX11_areSeen_2 rfl rfl ?_
  obtain ⟨v1, k2, h⟩ := bd h
  have k2 := l_M_seen (d + 0) n e σ 0 x1 _ k2
  refine go_call (kc := 186) (Mc := mt186) (v := some (pvI v1)) (w' := (true, n, e, σ)) (pc' := 6) (st' := [pvI v1]) [pvR 11 0 129, pvI 0, pvI x1] [] (Or.inl rfl) dX11_areSeen_3 rfl rm_11_208 mtE186 rfl rfl rfl (Nat.le_of_ble_eq_true rfl) (Or.inr ⟨_, _, 129, rfl, Or.inl rfl⟩) k2 rfl ?_
  obtain ⟨j3, k4, h⟩ := bd h
  have k4J : Go none (Ev (d + 3)) mt208 32 [some (pvR 11 0 129), some (pvI x1), some (pvI x2), some (pvI x3)] [pvI j3] (true, n, e, σ) (0, some (pvI r), true, n, e, σ) := by
    obtain ⟨g11, h⟩ := gd h
    cases h
    exact go_zret dX11_areSeen_32 rfl g11 rfl
  clear h
  have h := k4
  refine go_if_eq (t := 31) (pc' := 9) dX11_areSeen_6 rfl rfl (fun c12 => ?_) (fun c12 => ?_)
  · rw [if_pos (show v1 = 0 from c12)] at h
    refine go_iconst (pc' := 32) dX11_areSeen_31 rfl (r32_c rfl) ?_
    cases h
    exact k4J
  · rw [if_neg (show ¬ (v1 = 0) from c12)] at h
    refine go_aload_n (pc' := 10) dX11_areSeen_9 rfl rfl (Nat.le_of_ble_eq_true rfl) ?_
    refine go_iconst (pc' := 11) dX11_areSeen_10 rfl (r32_c rfl) ?_
    refine go_iload_n (pc' := 12) dX11_areSeen_11 rfl rfl ?_
    obtain ⟨v5, k6, h⟩ := bd h
    have k6 := l_M_seen (d + 0) n e σ 1 x2 _ k6
    refine go_call (kc := 186) (Mc := mt186) (v := some (pvI v5)) (w' := (true, n, e, σ)) (pc' := 15) (st' := [pvI v5]) [pvR 11 0 129, pvI 1, pvI x2] [] (Or.inl rfl) dX11_areSeen_12 rfl rm_11_208 mtE186 rfl rfl rfl (Nat.le_of_ble_eq_true rfl) (Or.inr ⟨_, _, 129, rfl, Or.inl rfl⟩) k6 rfl ?_
    refine go_if_eq (t := 31) (pc' := 18) dX11_areSeen_15 rfl rfl (fun c10 => ?_) (fun c10 => ?_)
    · rw [if_pos (show v5 = 0 from c10)] at h
      refine go_iconst (pc' := 32) dX11_areSeen_31 rfl (r32_c rfl) ?_
      cases h
      exact k4J
    · rw [if_neg (show ¬ (v5 = 0) from c10)] at h
      refine go_aload_n (pc' := 19) dX11_areSeen_18 rfl rfl (Nat.le_of_ble_eq_true rfl) ?_
      refine go_iconst (pc' := 20) dX11_areSeen_19 rfl (r32_c rfl) ?_
      refine go_iload_n (pc' := 21) dX11_areSeen_20 rfl rfl ?_
      obtain ⟨v7, k8, h⟩ := bd h
      have k8 := l_M_seen (d + 0) n e σ 2 x3 _ k8
      refine go_call (kc := 186) (Mc := mt186) (v := some (pvI v7)) (w' := (true, n, e, σ)) (pc' := 24) (st' := [pvI v7]) [pvR 11 0 129, pvI 2, pvI x3] [] (Or.inl rfl) dX11_areSeen_21 rfl rm_11_208 mtE186 rfl rfl rfl (Nat.le_of_ble_eq_true rfl) (Or.inr ⟨_, _, 129, rfl, Or.inl rfl⟩) k8 rfl ?_
      refine go_if_eq (t := 31) (pc' := 27) dX11_areSeen_24 rfl rfl (fun c9 => ?_) (fun c9 => ?_)
      · rw [if_pos (show v7 = 0 from c9)] at h
        refine go_iconst (pc' := 32) dX11_areSeen_31 rfl (r32_c rfl) ?_
        cases h
        exact k4J
      · rw [if_neg (show ¬ (v7 = 0) from c9)] at h
        refine go_iconst (pc' := 28) dX11_areSeen_27 rfl (r32_c rfl) ?_
        refine go_goto (t := 32) dX11_areSeen_28 rfl ?_
        cases h
        exact k4J

set_option maxRecDepth 10000 in
theorem l_M_back_20 (d : Nat) (n : Nat) (e : Nat) (σ : Hp) (x1 : Int) (x2 : Int) (y1 : Int) (y2 : Int) {out : Out} : ∀ (F : Nat) (y3 : Int) (y4 : Int) (j28 : Int × Int), f_M_back_20 σ x1 y2 F y3 y4 = some j28 → Go none (Ev (d + 3)) mt212 123 [some (pvR 11 0 129), some (pvI x1), some (pvI x2), some (pvI y1), some (pvI y2), some (pvI j28.1), some (pvI j28.2), none] [] (true, n, e, σ) out → Go none (Ev (d + 3)) mt212 20 [some (pvR 11 0 129), some (pvI x1), some (pvI x2), some (pvI y1), some (pvI y2), some (pvI y3), some (pvI y4), none] [] (true, n, e, σ) out := by
  intro F
  induction F with
  | zero =>
    intro _ _ _ h
    intro _
    rw [f_M_back_20] at h
    cases h
  | succ F ih =>
    intro y3 y4 j28 h hx
    rw [f_M_back_20] at h
    refine go_iload (pc' := 22) dX11_back_20 rfl rfl ?_
    refine go_aload_n (pc' := 23) dX11_back_22 rfl rfl (Nat.le_of_ble_eq_true rfl) ?_
    refine go_getR (k' := 12) (L0 := 3) (P' := 130) (pc' := 26) dX11_back_23 rfl rf_11_9 rfl rfl (by omega) ?_
    refine go_iconst (pc' := 27) dX11_back_26 rfl (r32_c rfl) ?_
    obtain ⟨g5, h⟩ := gd h
    refine go_iald (pc' := 28) dX11_back_27 rfl g5 ?_
    refine go_icmp_ge (t := 123) (pc' := 31) dX11_back_28 rfl rfl (fun c27 => ?_) (fun c27 => ?_)
    · rw [if_pos (show (σ 130 0) ≤ y4 from c27)] at h
      cases h
      exact hx
    · rw [if_neg (show ¬ ((σ 130 0) ≤ y4) from c27)] at h
      refine go_aload_n (pc' := 32) dX11_back_31 rfl rfl (Nat.le_of_ble_eq_true rfl) ?_
      refine go_iconst (pc' := 33) dX11_back_32 rfl (r32_c rfl) ?_
      refine go_iload (pc' := 35) dX11_back_33 rfl rfl ?_
      obtain ⟨v6, k7, h⟩ := bd h
      have k7 := l_M_isPlain (d + 2) n e σ 0 y4 _ k7
      refine go_call (kc := 173) (Mc := mt173) (v := some (pvI v6)) (w' := (true, n, e, σ)) (pc' := 38) (st' := [pvI v6]) [pvR 11 0 129, pvI 0, pvI y4] [] (Or.inl rfl) dX11_back_35 rfl rm_11_180 mtE173 rfl rfl rfl (Nat.le_of_ble_eq_true rfl) (Or.inr ⟨_, _, 129, rfl, Or.inl rfl⟩) k7 rfl ?_
      obtain ⟨j8, k9, h⟩ := bd h
      have k9J : Go none (Ev (d + 3)) mt212 101 [some (pvR 11 0 129), some (pvI x1), some (pvI x2), some (pvI y1), some (pvI y2), some (pvI y3), some (pvI y4), none] [pvI j8] (true, n, e, σ) out := by
        refine go_istore (L' := [some (pvR 11 0 129), some (pvI x1), some (pvI x2), some (pvI y1), some (pvI y2), some (pvI y3), some (pvI y4), some (pvI j8)]) (pc' := 103) dX11_back_101 rfl (Nat.le_of_ble_eq_true rfl) rfl ?_
        refine go_iload (pc' := 105) dX11_back_103 rfl rfl ?_
        obtain ⟨j22, k23, h⟩ := bd h
        have k23J : Go none (Ev (d + 3)) mt212 115 [some (pvR 11 0 129), some (pvI x1), some (pvI x2), some (pvI y1), some (pvI y2), some (pvI y3), some (pvI y4), some (pvI j8)] [pvI j22] (true, n, e, σ) out := by
          refine go_istore (L' := [some (pvR 11 0 129), some (pvI x1), some (pvI x2), some (pvI y1), some (pvI y2), some (pvI j22), some (pvI y4), some (pvI j8)]) (pc' := 117) dX11_back_115 rfl (Nat.le_of_ble_eq_true rfl) rfl ?_
          obtain ⟨g24, h⟩ := gd h
          refine go_iinc (L' := [some (pvR 11 0 129), some (pvI x1), some (pvI x2), some (pvI y1), some (pvI y2), some (pvI j22), some (pvI (y4 + 1)), some (pvI j8)]) (pc' := 120) dX11_back_117 rfl rfl g24 rfl ?_
          refine go_goto (t := 20) dX11_back_120 rfl ?_
          exact go_sub (ih j22 (y4 + 1) _ h hx) ⟨Or.inr rfl, Or.inr rfl, Or.inr rfl, Or.inr rfl, Or.inr rfl, Or.inr rfl, Or.inr rfl, Or.inl rfl, trivial⟩
        clear h
        have h := k23
        refine go_if_eq (t := 113) (pc' := 108) dX11_back_105 rfl rfl (fun c25 => ?_) (fun c25 => ?_)
        · rw [if_pos (show j8 = 0 from c25)] at h
          refine go_iload (pc' := 115) dX11_back_113 rfl rfl ?_
          cases h
          exact k23J
        · rw [if_neg (show ¬ (j8 = 0) from c25)] at h
          refine go_iload (pc' := 110) dX11_back_108 rfl rfl ?_
          refine go_goto (t := 115) dX11_back_110 rfl ?_
          cases h
          exact k23J
      clear h
      have h := k9
      refine go_if_eq (t := 100) (pc' := 41) dX11_back_38 rfl rfl (fun c26 => ?_) (fun c26 => ?_)
      · rw [if_pos (show v6 = 0 from c26)] at h
        refine go_iconst (pc' := 101) dX11_back_100 rfl (r32_c rfl) ?_
        cases h
        exact k9J
      · rw [if_neg (show ¬ (v6 = 0) from c26)] at h
        refine go_aload_n (pc' := 42) dX11_back_41 rfl rfl (Nat.le_of_ble_eq_true rfl) ?_
        refine go_iconst (pc' := 43) dX11_back_42 rfl (r32_c rfl) ?_
        refine go_iload (pc' := 45) dX11_back_43 rfl rfl ?_
        obtain ⟨v10, k11, h⟩ := bd h
        have k11 := l_M_depth (d + 0) n e σ 0 y4 _ k11
        refine go_call (kc := 185) (Mc := mt185) (v := some (pvI v10)) (w' := (true, n, e, σ)) (pc' := 48) (st' := [pvI v10]) [pvR 11 0 129, pvI 0, pvI y4] [] (Or.inl rfl) dX11_back_45 rfl rm_11_205 mtE185 rfl rfl rfl (Nat.le_of_ble_eq_true rfl) (Or.inr ⟨_, _, 129, rfl, Or.inl rfl⟩) k11 rfl ?_
        refine go_aload_n (pc' := 49) dX11_back_48 rfl rfl (Nat.le_of_ble_eq_true rfl) ?_
        refine go_iconst (pc' := 50) dX11_back_49 rfl (r32_c rfl) ?_
        refine go_iload_n (pc' := 51) dX11_back_50 rfl rfl ?_
        obtain ⟨v12, k13, h⟩ := bd h
        have k13 := l_M_depth (d + 0) n e σ 0 x1 _ k13
        refine go_call (kc := 185) (Mc := mt185) (v := some (pvI v12)) (w' := (true, n, e, σ)) (pc' := 54) (st' := [pvI v12, pvI v10]) [pvR 11 0 129, pvI 0, pvI x1] [pvI v10] (Or.inl rfl) dX11_back_51 rfl rm_11_205 mtE185 rfl rfl rfl (Nat.le_of_ble_eq_true rfl) (Or.inr ⟨_, _, 129, rfl, Or.inl rfl⟩) k13 rfl ?_
        refine go_icmp_ne (t := 100) (pc' := 57) dX11_back_54 rfl rfl (fun c21 => ?_) (fun c21 => ?_)
        · rw [if_pos (show v10 ≠ v12 from c21)] at h
          refine go_iconst (pc' := 101) dX11_back_100 rfl (r32_c rfl) ?_
          cases h
          exact k9J
        · rw [if_neg (show ¬ (v10 ≠ v12) from c21)] at h
          refine go_aload_n (pc' := 58) dX11_back_57 rfl rfl (Nat.le_of_ble_eq_true rfl) ?_
          refine go_getR (k' := 12) (L0 := 12) (P' := 145) (pc' := 61) dX11_back_58 rfl rf_11_57 rfl rfl (by omega) ?_
          refine go_iload (pc' := 63) dX11_back_61 rfl rfl ?_
          obtain ⟨g14, h⟩ := gd h
          refine go_iald (pc' := 64) dX11_back_63 rfl g14 ?_
          refine go_aload_n (pc' := 65) dX11_back_64 rfl rfl (Nat.le_of_ble_eq_true rfl) ?_
          refine go_getR (k' := 12) (L0 := 12) (P' := 145) (pc' := 68) dX11_back_65 rfl rf_11_57 rfl rfl (by omega) ?_
          refine go_iload (pc' := 70) dX11_back_68 rfl rfl ?_
          obtain ⟨g15, h⟩ := gd h
          refine go_iald (pc' := 71) dX11_back_70 rfl g15 ?_
          refine go_icmp_ge (t := 100) (pc' := 74) dX11_back_71 rfl rfl (fun c20 => ?_) (fun c20 => ?_)
          · rw [if_pos (show (σ 145 y2) ≤ (σ 145 y4) from c20)] at h
            refine go_iconst (pc' := 101) dX11_back_100 rfl (r32_c rfl) ?_
            cases h
            exact k9J
          · rw [if_neg (show ¬ ((σ 145 y2) ≤ (σ 145 y4)) from c20)] at h
            refine go_iload (pc' := 76) dX11_back_74 rfl rfl ?_
            refine go_if_lt (t := 96) (pc' := 79) dX11_back_76 rfl rfl (fun c19 => ?_) (fun c19 => ?_)
            · rw [if_pos (show y3 < 0 from c19)] at h
              refine go_iconst (pc' := 97) dX11_back_96 rfl (r32_c rfl) ?_
              refine go_goto (t := 101) dX11_back_97 rfl ?_
              cases h
              exact k9J
            · rw [if_neg (show ¬ (y3 < 0) from c19)] at h
              refine go_aload_n (pc' := 80) dX11_back_79 rfl rfl (Nat.le_of_ble_eq_true rfl) ?_
              refine go_getR (k' := 12) (L0 := 12) (P' := 145) (pc' := 83) dX11_back_80 rfl rf_11_57 rfl rfl (by omega) ?_
              refine go_iload (pc' := 85) dX11_back_83 rfl rfl ?_
              obtain ⟨g16, h⟩ := gd h
              refine go_iald (pc' := 86) dX11_back_85 rfl g16 ?_
              refine go_aload_n (pc' := 87) dX11_back_86 rfl rfl (Nat.le_of_ble_eq_true rfl) ?_
              refine go_getR (k' := 12) (L0 := 12) (P' := 145) (pc' := 90) dX11_back_87 rfl rf_11_57 rfl rfl (by omega) ?_
              refine go_iload (pc' := 92) dX11_back_90 rfl rfl ?_
              obtain ⟨g17, h⟩ := gd h
              refine go_iald (pc' := 93) dX11_back_92 rfl g17 ?_
              refine go_icmp_le (t := 100) (pc' := 96) dX11_back_93 rfl rfl (fun c18 => ?_) (fun c18 => ?_)
              · rw [if_pos (show (σ 145 y4) ≤ (σ 145 y3) from c18)] at h
                refine go_iconst (pc' := 101) dX11_back_100 rfl (r32_c rfl) ?_
                cases h
                exact k9J
              · rw [if_neg (show ¬ ((σ 145 y4) ≤ (σ 145 y3)) from c18)] at h
                refine go_iconst (pc' := 97) dX11_back_96 rfl (r32_c rfl) ?_
                refine go_goto (t := 101) dX11_back_97 rfl ?_
                cases h
                exact k9J

set_option maxRecDepth 10000 in
theorem l_M_back_5 (d : Nat) (n : Nat) (e : Nat) (σ : Hp) (x1 : Int) (x2 : Int) {out : Out} : ∀ (F : Nat) (y1 : Int) (y2 : Int) (j34 : Int × Int), f_M_back_5 σ x1 F y1 y2 = some j34 → Go none (Ev (d + 3)) mt212 133 [some (pvR 11 0 129), some (pvI x1), some (pvI x2), some (pvI j34.1), some (pvI j34.2), none, none, none] [] (true, n, e, σ) out → Go none (Ev (d + 3)) mt212 5 [some (pvR 11 0 129), some (pvI x1), some (pvI x2), some (pvI y1), some (pvI y2), none, none, none] [] (true, n, e, σ) out := by
  intro F
  induction F with
  | zero =>
    intro _ _ _ h
    intro _
    rw [f_M_back_5] at h
    cases h
  | succ F ih =>
    intro y1 y2 j34 h hx
    rw [f_M_back_5] at h
    refine go_iload_n (pc' := 6) dX11_back_5 rfl rfl ?_
    refine go_if_le (t := 133) (pc' := 9) dX11_back_6 rfl rfl (fun c33 => ?_) (fun c33 => ?_)
    · rw [if_pos (show y1 ≤ 0 from c33)] at h
      cases h
      exact hx
    · rw [if_neg (show ¬ (y1 ≤ 0) from c33)] at h
      refine go_iload (pc' := 11) dX11_back_9 rfl rfl ?_
      refine go_if_lt (t := 133) (pc' := 14) dX11_back_11 rfl rfl (fun c32 => ?_) (fun c32 => ?_)
      · rw [if_pos (show y2 < 0 from c32)] at h
        cases h
        exact hx
      · rw [if_neg (show ¬ (y2 < 0) from c32)] at h
        refine go_iconst (pc' := 15) dX11_back_14 rfl (r32_c rfl) ?_
        refine go_istore (L' := [some (pvR 11 0 129), some (pvI x1), some (pvI x2), some (pvI y1), some (pvI y2), some (pvI (-1)), none, none]) (pc' := 17) dX11_back_15 rfl (Nat.le_of_ble_eq_true rfl) rfl ?_
        refine go_iconst (pc' := 18) dX11_back_17 rfl (r32_c rfl) ?_
        refine go_istore (L' := [some (pvR 11 0 129), some (pvI x1), some (pvI x2), some (pvI y1), some (pvI y2), some (pvI (-1)), some (pvI 0), none]) (pc' := 20) dX11_back_18 rfl (Nat.le_of_ble_eq_true rfl) rfl ?_
        obtain ⟨j29, k30, h⟩ := bd h
        refine l_M_back_20 d n e σ x1 x2 y1 y2 zFuel (-1) 0 _ k30 ?_
        refine go_iload (pc' := 125) dX11_back_123 rfl rfl ?_
        refine go_istore (L' := [some (pvR 11 0 129), some (pvI x1), some (pvI x2), some (pvI y1), some (pvI j29.1), some (pvI j29.1), some (pvI j29.2), none]) (pc' := 127) dX11_back_125 rfl (Nat.le_of_ble_eq_true rfl) rfl ?_
        obtain ⟨g31, h⟩ := gd h
        refine go_iinc (L' := [some (pvR 11 0 129), some (pvI x1), some (pvI x2), some (pvI (y1 + (-1))), some (pvI j29.1), some (pvI j29.1), some (pvI j29.2), none]) (pc' := 130) dX11_back_127 rfl rfl g31 rfl ?_
        refine go_goto (t := 5) dX11_back_130 rfl ?_
        exact go_sub (ih (y1 + (-1)) j29.1 _ h hx) ⟨Or.inr rfl, Or.inr rfl, Or.inr rfl, Or.inr rfl, Or.inr rfl, Or.inl rfl, Or.inl rfl, Or.inr rfl, trivial⟩

set_option maxRecDepth 10000 in
theorem l_M_back (d : Nat) (n e : Nat) (σ : Hp) (x1 : Int) (x2 : Int) (r : Int) (h : f_M_back σ x1 x2 = some r) : Ev (d + 4) 212 [pvR 11 0 129, pvI x1, pvI x2] (true, n, e, σ) (0, some (pvI r), true, n, e, σ) := by
  unfold f_M_back at h
  refine Ev.of mtE212 rfl rfl rfl rfl ?_
  show Go none (Ev (d + 3)) mt212 0 [some (pvR 11 0 129), some (pvI x1), some (pvI x2), none, none, none, none, none] [] (true, n, e, σ) (0, some (pvI r), true, n, e, σ)
  refine go_iload_n (pc' := 1) dX11_back_0 rfl rfl ?_
  refine go_istore_n (L' := [some (pvR 11 0 129), some (pvI x1), some (pvI x2), some (pvI x2), none, none, none, none]) (pc' := 2) dX11_back_1 rfl (Nat.le_of_ble_eq_true rfl) rfl ?_
  refine go_iload_n (pc' := 3) dX11_back_2 rfl rfl ?_
  refine go_istore (L' := [some (pvR 11 0 129), some (pvI x1), some (pvI x2), some (pvI x2), some (pvI x1), none, none, none]) (pc' := 5) dX11_back_3 rfl (Nat.le_of_ble_eq_true rfl) rfl ?_
  obtain ⟨j35, k36, h⟩ := bd h
  refine l_M_back_5 d n e σ x1 x2 zFuel x2 x1 _ k36 ?_
  refine go_iload (pc' := 135) dX11_back_133 rfl rfl ?_
  cases h
  exact go_iret dX11_back_135 rfl rfl

set_option maxRecDepth 10000 in
theorem l_M_bound (d : Nat) (n e : Nat) (σ : Hp) (x1 : Int) (r : Int) (h : f_M_bound σ x1 = some r) : Ev (d + 1) 213 [pvR 11 0 129, pvL x1] (true, n, e, σ) (0, some (pvL r), true, n, e, σ) := by
  unfold f_M_bound at h
  refine Ev.of mtE213 rfl rfl rfl rfl ?_
  show Go none (Ev (d + 0)) mt213 0 [some (pvR 11 0 129), some (pvL x1), none] [] (true, n, e, σ) (0, some (pvL r), true, n, e, σ)
  refine go_lload_n (pc' := 1) dX11_bound_0 rfl rfl ?_
  refine go_ldc2 (pc' := 4) dX11_bound_1 rfl (r64_c rfl) rc_11_264 ?_
  refine go_lcmp (pc' := 5) dX11_bound_4 rfl ?_
  obtain ⟨j1, k2, h⟩ := bd h
  have k2J : Go none (Ev (d + 0)) mt213 29 [some (pvR 11 0 129), some (pvL x1), none] [pvL j1] (true, n, e, σ) (0, some (pvL r), true, n, e, σ) := by
    cases h
    exact go_lret dX11_bound_29 rfl rfl
  clear h
  have h := k2
  refine go_if_le (t := 14) (pc' := 8) dX11_bound_5 rfl rfl (fun c4 => ?_) (fun c4 => ?_)
  · rw [if_pos (show (lcm x1 1000000000000) ≤ 0 from c4)] at h
    refine go_lload_n (pc' := 15) dX11_bound_14 rfl rfl ?_
    refine go_ldc2 (pc' := 18) dX11_bound_15 rfl (r64_c rfl) rc_11_266 ?_
    refine go_lcmp (pc' := 19) dX11_bound_18 rfl ?_
    refine go_if_ge (t := 28) (pc' := 22) dX11_bound_19 rfl rfl (fun c3 => ?_) (fun c3 => ?_)
    · rw [if_pos (show 0 ≤ (lcm x1 (-1000000000000)) from c3)] at h
      refine go_lload_n (pc' := 29) dX11_bound_28 rfl rfl ?_
      cases h
      exact k2J
    · rw [if_neg (show ¬ (0 ≤ (lcm x1 (-1000000000000))) from c3)] at h
      refine go_ldc2 (pc' := 25) dX11_bound_22 rfl (r64_c rfl) rc_11_266 ?_
      refine go_goto (t := 29) dX11_bound_25 rfl ?_
      cases h
      exact k2J
  · rw [if_neg (show ¬ ((lcm x1 1000000000000) ≤ 0) from c4)] at h
    refine go_ldc2 (pc' := 11) dX11_bound_8 rfl (r64_c rfl) rc_11_264 ?_
    refine go_goto (t := 29) dX11_bound_11 rfl ?_
    cases h
    exact k2J

set_option maxRecDepth 10000 in
theorem l_M_look (V : Hp → Int → Int → Int → Int → Int → Option (Int × Hp)) (u : Nat) (hV : ∀ (d n e : Nat) (σ : Hp) (x1 : Int) (x2 : Int) (x3 : Int) (x4 : Int) (x5 : Int) (r : Int × Hp), V σ x1 x2 x3 x4 x5 = some r → Ev (d + u) 209 [pvR 11 0 129, pvI x1, pvI x2, pvI x3, pvI x4, pvI x5] (true, n, e, σ) (0, some (pvL r.1), true, n, e, r.2)) (d : Nat) (n e : Nat) (σ : Hp) (x1 : Int) (x2 : Int) (x3 : Int) (x4 : Int) (x5 : Int) (x6 : Int) (x7 : Int) (x8 : Int) (r : Int × Hp) (h : f_M_look V σ x1 x2 x3 x4 x5 x6 x7 x8 = some r) : Ev (d + u + 5) 211 [pvR 11 0 129, pvI x1, pvI x2, pvI x3, pvI x4, pvI x5, pvI x6, pvI x7, pvI x8] (true, n, e, σ) (0, some (pvL r.1), true, n, e, r.2) := by
  unfold f_M_look at h
  refine Ev.of mtE211 rfl rfl rfl rfl ?_
  show Go none (Ev (d + u + 4)) mt211 0 [some (pvR 11 0 129), some (pvI x1), some (pvI x2), some (pvI x3), some (pvI x4), some (pvI x5), some (pvI x6), some (pvI x7), some (pvI x8), none, none, none] [] (true, n, e, σ) (0, some (pvL r.1), true, n, e, r.2)
  refine go_iload_n (pc' := 1) dX11_look_0 rfl rfl ?_
  obtain ⟨j1, k2, h⟩ := bd h
  have k2J : Go none (Ev (d + u + 4)) mt211 10 [some (pvR 11 0 129), some (pvI x1), some (pvI x2), some (pvI x3), some (pvI x4), some (pvI x5), some (pvI x6), some (pvI x7), some (pvI x8), none, none, none] [pvI j1] (true, n, e, σ) (0, some (pvL r.1), true, n, e, r.2) := by
    refine go_istore (L' := [some (pvR 11 0 129), some (pvI x1), some (pvI x2), some (pvI x3), some (pvI x4), some (pvI x5), some (pvI x6), some (pvI x7), some (pvI x8), some (pvI j1), none, none]) (pc' := 12) dX11_look_10 rfl (Nat.le_of_ble_eq_true rfl) rfl ?_
    refine go_iload_n (pc' := 13) dX11_look_12 rfl rfl ?_
    obtain ⟨j3, k4, h⟩ := bd h
    have k4J : Go none (Ev (d + u + 4)) mt211 39 [some (pvR 11 0 129), some (pvI x1), some (pvI x2), some (pvI x3), some (pvI x4), some (pvI x5), some (pvI x6), some (pvI x7), some (pvI x8), some (pvI j3), none, none] [] (true, n, e, σ) (0, some (pvL r.1), true, n, e, r.2) := by
      refine go_iload (pc' := 41) dX11_look_39 rfl rfl ?_
      obtain ⟨j12, k13, h⟩ := bd h
      have k13J : Go none (Ev (d + u + 4)) mt211 82 [some (pvR 11 0 129), some (pvI x1), some (pvI x2), some (pvI x3), some (pvI x4), some (pvI x5), some (pvI x6), some (pvI x7), some (pvI x8), some (pvI j3), none, none] [pvL j12.1] (true, n, e, j12.2) (0, some (pvL r.1), true, n, e, r.2) := by
        refine go_lstore (L' := [some (pvR 11 0 129), some (pvI x1), some (pvI x2), some (pvI x3), some (pvI x4), some (pvI x5), some (pvI x6), some (pvI x7), some (pvI x8), some (pvI j3), some (pvL j12.1), none]) (pc' := 84) dX11_look_82 rfl (Nat.le_of_ble_eq_true rfl) rfl ?_
        refine go_lload (pc' := 86) dX11_look_84 rfl rfl ?_
        refine go_ldc2 (pc' := 89) dX11_look_86 rfl (r64_c rfl) rc_11_262 ?_
        refine go_lcmp (pc' := 90) dX11_look_89 rfl ?_
        obtain ⟨j22, k23, h⟩ := bd h
        have k23J : Go none (Ev (d + u + 4)) mt211 105 [some (pvR 11 0 129), some (pvI x1), some (pvI x2), some (pvI x3), some (pvI x4), some (pvI x5), some (pvI x6), some (pvI x7), some (pvI x8), some (pvI j3), some (pvL j12.1), none] [pvL j22] (true, n, e, j12.2) (0, some (pvL r.1), true, n, e, r.2) := by
          cases h
          exact go_lret dX11_look_105 rfl rfl
        clear h
        have h := k23
        refine go_if_ne (t := 99) (pc' := 93) dX11_look_90 rfl rfl (fun c26 => ?_) (fun c26 => ?_)
        · rw [if_pos (show (lcm j12.1 (-9223372036854775808)) ≠ 0 from c26)] at h
          refine go_aload_n (pc' := 100) dX11_look_99 rfl rfl (Nat.le_of_ble_eq_true rfl) ?_
          refine go_lload (pc' := 102) dX11_look_100 rfl rfl ?_
          obtain ⟨v24, k25, h⟩ := bd h
          have k25 := l_M_bound (d + u + 3) n e j12.2 j12.1 _ k25
          refine go_call (kc := 213) (Mc := mt213) (v := some (pvL v24)) (w' := (true, n, e, j12.2)) (pc' := 105) (st' := [pvL v24]) [pvR 11 0 129, pvL j12.1] [] (Or.inl rfl) dX11_look_102 rfl rm_11_281 mtE213 rfl rfl rfl (Nat.le_of_ble_eq_true rfl) (Or.inr ⟨_, _, 129, rfl, Or.inl rfl⟩) k25 rfl ?_
          cases h
          exact k23J
        · rw [if_neg (show ¬ ((lcm j12.1 (-9223372036854775808)) ≠ 0) from c26)] at h
          refine go_ldc2 (pc' := 96) dX11_look_93 rfl (r64_c rfl) rc_11_262 ?_
          refine go_goto (t := 105) dX11_look_96 rfl ?_
          cases h
          exact k23J
      clear h
      have h := k13
      refine go_if_ge (t := 50) (pc' := 44) dX11_look_41 rfl rfl (fun c27 => ?_) (fun c27 => ?_)
      · rw [if_pos (show 0 ≤ j3 from c27)] at h
        refine go_aload_n (pc' := 51) dX11_look_50 rfl rfl (Nat.le_of_ble_eq_true rfl) ?_
        refine go_iload (pc' := 53) dX11_look_51 rfl rfl ?_
        refine go_iload_n (pc' := 54) dX11_look_53 rfl rfl ?_
        refine go_iconst (pc' := 55) dX11_look_54 rfl (r32_c rfl) ?_
        obtain ⟨j14, k15, h⟩ := bd h
        have k15J : Go none (Ev (d + u + 4)) mt211 64 [some (pvR 11 0 129), some (pvI x1), some (pvI x2), some (pvI x3), some (pvI x4), some (pvI x5), some (pvI x6), some (pvI x7), some (pvI x8), some (pvI j3), none, none] [pvI j14, pvI j3, pvR 11 0 129] (true, n, e, σ) (0, some (pvL r.1), true, n, e, r.2) := by
          refine go_iload_n (pc' := 65) dX11_look_64 rfl rfl ?_
          refine go_iconst (pc' := 66) dX11_look_65 rfl (r32_c rfl) ?_
          obtain ⟨j16, k17, h⟩ := bd h
          have k17J : Go none (Ev (d + u + 4)) mt211 75 [some (pvR 11 0 129), some (pvI x1), some (pvI x2), some (pvI x3), some (pvI x4), some (pvI x5), some (pvI x6), some (pvI x7), some (pvI x8), some (pvI j3), none, none] [pvI j16, pvI j14, pvI j3, pvR 11 0 129] (true, n, e, σ) (0, some (pvL r.1), true, n, e, r.2) := by
            refine go_iload (pc' := 77) dX11_look_75 rfl rfl ?_
            refine go_iload (pc' := 79) dX11_look_77 rfl rfl ?_
            obtain ⟨v18, k19, h⟩ := bd h
            have k19 := (by have z := hV (d + 4) n e σ j3 j14 j16 x7 x8 _ k19; rwa [show d + 4 + u = d + u + 4 by omega] at z)
            refine go_call (kc := 209) (Mc := mt209) (v := some (pvL v18.1)) (w' := (true, n, e, v18.2)) (pc' := 82) (st' := [pvL v18.1]) [pvR 11 0 129, pvI j3, pvI j14, pvI j16, pvI x7, pvI x8] [] (Or.inl rfl) dX11_look_79 rfl rm_11_275 mtE209 rfl rfl rfl (Nat.le_of_ble_eq_true rfl) (Or.inr ⟨_, _, 129, rfl, Or.inl rfl⟩) k19 rfl ?_
            cases h
            exact k13J
          clear h
          have h := k17
          refine go_icmp_ne (t := 73) (pc' := 69) dX11_look_66 rfl rfl (fun c20 => ?_) (fun c20 => ?_)
          · rw [if_pos (show x1 ≠ 2 from c20)] at h
            refine go_iload (pc' := 75) dX11_look_73 rfl rfl ?_
            cases h
            exact k17J
          · rw [if_neg (show ¬ (x1 ≠ 2) from c20)] at h
            refine go_iload_n (pc' := 70) dX11_look_69 rfl rfl ?_
            refine go_goto (t := 75) dX11_look_70 rfl ?_
            cases h
            exact k17J
        clear h
        have h := k15
        refine go_icmp_ne (t := 62) (pc' := 58) dX11_look_55 rfl rfl (fun c21 => ?_) (fun c21 => ?_)
        · rw [if_pos (show x1 ≠ 1 from c21)] at h
          refine go_iload (pc' := 64) dX11_look_62 rfl rfl ?_
          cases h
          exact k15J
        · rw [if_neg (show ¬ (x1 ≠ 1) from c21)] at h
          refine go_iload_n (pc' := 59) dX11_look_58 rfl rfl ?_
          refine go_goto (t := 64) dX11_look_59 rfl ?_
          cases h
          exact k15J
      · rw [if_neg (show ¬ (0 ≤ j3) from c27)] at h
        refine go_ldc2 (pc' := 47) dX11_look_44 rfl (r64_c rfl) rc_11_262 ?_
        refine go_goto (t := 82) dX11_look_47 rfl ?_
        cases h
        exact k13J
    clear h
    have h := k4
    refine go_if_le (t := 39) (pc' := 16) dX11_look_13 rfl rfl (fun c28 => ?_) (fun c28 => ?_)
    · rw [if_pos (show x3 ≤ 0 from c28)] at h
      cases h
      exact k4J
    · rw [if_neg (show ¬ (x3 ≤ 0) from c28)] at h
      refine go_aload_n (pc' := 17) dX11_look_16 rfl rfl (Nat.le_of_ble_eq_true rfl) ?_
      refine go_iconst (pc' := 18) dX11_look_17 rfl (r32_c rfl) ?_
      refine go_iload (pc' := 20) dX11_look_18 rfl rfl ?_
      obtain ⟨v5, k6, h⟩ := bd h
      have k6 := l_M_isPlain (d + u + 3) n e σ 0 j1 _ k6
      refine go_call (kc := 173) (Mc := mt173) (v := some (pvI v5)) (w' := (true, n, e, σ)) (pc' := 23) (st' := [pvI v5]) [pvR 11 0 129, pvI 0, pvI j1] [] (Or.inl rfl) dX11_look_20 rfl rm_11_180 mtE173 rfl rfl rfl (Nat.le_of_ble_eq_true rfl) (Or.inr ⟨_, _, 129, rfl, Or.inl rfl⟩) k6 rfl ?_
      obtain ⟨j7, k8, h⟩ := bd h
      have k8J : Go none (Ev (d + u + 4)) mt211 37 [some (pvR 11 0 129), some (pvI x1), some (pvI x2), some (pvI x3), some (pvI x4), some (pvI x5), some (pvI x6), some (pvI x7), some (pvI x8), some (pvI j1), none, none] [pvI j7] (true, n, e, σ) (0, some (pvL r.1), true, n, e, r.2) := by
        refine go_istore (L' := [some (pvR 11 0 129), some (pvI x1), some (pvI x2), some (pvI x3), some (pvI x4), some (pvI x5), some (pvI x6), some (pvI x7), some (pvI x8), some (pvI j7), none, none]) (pc' := 39) dX11_look_37 rfl (Nat.le_of_ble_eq_true rfl) rfl ?_
        cases h
        exact k4J
      clear h
      have h := k8
      refine go_if_eq (t := 36) (pc' := 26) dX11_look_23 rfl rfl (fun c11 => ?_) (fun c11 => ?_)
      · rw [if_pos (show v5 = 0 from c11)] at h
        refine go_iconst (pc' := 37) dX11_look_36 rfl (r32_c rfl) ?_
        cases h
        exact k8J
      · rw [if_neg (show ¬ (v5 = 0) from c11)] at h
        refine go_aload_n (pc' := 27) dX11_look_26 rfl rfl (Nat.le_of_ble_eq_true rfl) ?_
        refine go_iload (pc' := 29) dX11_look_27 rfl rfl ?_
        refine go_iload_n (pc' := 30) dX11_look_29 rfl rfl ?_
        obtain ⟨v9, k10, h⟩ := bd h
        have k10 := l_M_back (d + u + 0) n e σ j1 x3 _ k10
        refine go_call (kc := 212) (Mc := mt212) (v := some (pvI v9)) (w' := (true, n, e, σ)) (pc' := 33) (st' := [pvI v9]) [pvR 11 0 129, pvI j1, pvI x3] [] (Or.inl rfl) dX11_look_30 rfl rm_11_293 mtE212 rfl rfl rfl (Nat.le_of_ble_eq_true rfl) (Or.inr ⟨_, _, 129, rfl, Or.inl rfl⟩) k10 rfl ?_
        refine go_goto (t := 37) dX11_look_33 rfl ?_
        cases h
        exact k8J
  clear h
  have h := k2
  refine go_if_ne (t := 8) (pc' := 4) dX11_look_1 rfl rfl (fun c29 => ?_) (fun c29 => ?_)
  · rw [if_pos (show x1 ≠ 0 from c29)] at h
    refine go_iload (pc' := 10) dX11_look_8 rfl rfl ?_
    cases h
    exact k2J
  · rw [if_neg (show ¬ (x1 ≠ 0) from c29)] at h
    refine go_iload_n (pc' := 5) dX11_look_4 rfl rfl ?_
    refine go_goto (t := 10) dX11_look_5 rfl ?_
    cases h
    exact k2J

set_option maxRecDepth 10000 in
theorem l_M_times (d : Nat) (n e : Nat) (σ : Hp) (x1 : Int) (x2 : Int) (r : Int) (h : f_M_times σ x1 x2 = some r) : Ev (d + 2) 216 [pvR 11 0 129, pvL x1, pvL x2] (true, n, e, σ) (0, some (pvL r), true, n, e, σ) := by
  unfold f_M_times at h
  refine Ev.of mtE216 rfl rfl rfl rfl ?_
  show Go none (Ev (d + 1)) mt216 0 [some (pvR 11 0 129), some (pvL x1), none, some (pvL x2), none, none, none, none, none, none] [] (true, n, e, σ) (0, some (pvL r), true, n, e, σ)
  refine go_lload_n (pc' := 1) dX11_times_0 rfl rfl ?_
  refine go_lconst (z := 0) (pc' := 2) dX11_times_1 rfl rfl ?_
  refine go_lcmp (pc' := 3) dX11_times_2 rfl ?_
  obtain ⟨j1, k2, h⟩ := bd h
  have k2J : Go none (Ev (d + 1)) mt216 12 [some (pvR 11 0 129), some (pvL x1), none, some (pvL x2), none, none, none, none, none, none] [pvL j1] (true, n, e, σ) (0, some (pvL r), true, n, e, σ) := by
    refine go_lstore (L' := [some (pvR 11 0 129), some (pvL x1), none, some (pvL x2), none, some (pvL j1), none, none, none, none]) (pc' := 14) dX11_times_12 rfl (Nat.le_of_ble_eq_true rfl) rfl ?_
    refine go_lload_n (pc' := 15) dX11_times_14 rfl rfl ?_
    refine go_lconst (z := 0) (pc' := 16) dX11_times_15 rfl rfl ?_
    refine go_lcmp (pc' := 17) dX11_times_16 rfl ?_
    obtain ⟨j4, k5, h⟩ := bd h
    have k5J : Go none (Ev (d + 1)) mt216 26 [some (pvR 11 0 129), some (pvL x1), none, some (pvL x2), none, some (pvL j1), none, none, none, none] [pvL j4] (true, n, e, σ) (0, some (pvL r), true, n, e, σ) := by
      refine go_lstore (L' := [some (pvR 11 0 129), some (pvL x1), none, some (pvL x2), none, some (pvL j1), none, some (pvL j4), none, none]) (pc' := 28) dX11_times_26 rfl (Nat.le_of_ble_eq_true rfl) rfl ?_
      refine go_lload (pc' := 30) dX11_times_28 rfl rfl ?_
      refine go_lconst (z := 0) (pc' := 31) dX11_times_30 rfl rfl ?_
      refine go_lcmp (pc' := 32) dX11_times_31 rfl ?_
      obtain ⟨j7, k8, h⟩ := bd h
      have k8J : Go none (Ev (d + 1)) mt216 52 [some (pvR 11 0 129), some (pvL x1), none, some (pvL x2), none, some (pvL j1), none, some (pvL j4), none, none] [pvI j7] (true, n, e, σ) (0, some (pvL r), true, n, e, σ) := by
        refine go_istore (L' := [some (pvR 11 0 129), some (pvL x1), none, some (pvL x2), none, some (pvL j1), none, some (pvL j4), none, some (pvI j7)]) (pc' := 54) dX11_times_52 rfl (Nat.le_of_ble_eq_true rfl) rfl ?_
        refine go_iload (pc' := 56) dX11_times_54 rfl rfl ?_
        obtain ⟨j11, k12, h⟩ := bd h
        have k12J : Go none (Ev (d + 1)) mt216 103 [some (pvR 11 0 129), some (pvL x1), none, some (pvL x2), none, some (pvL j1), none, some (pvL j4), none, some (pvI j7)] [pvL j11] (true, n, e, σ) (0, some (pvL r), true, n, e, σ) := by
          cases h
          exact go_lret dX11_times_103 rfl rfl
        clear h
        have h := k12
        refine go_if_eq (t := 96) (pc' := 59) dX11_times_56 rfl rfl (fun c23 => ?_) (fun c23 => ?_)
        · rw [if_pos (show j7 = 0 from c23)] at h
          refine go_aload_n (pc' := 97) dX11_times_96 rfl rfl (Nat.le_of_ble_eq_true rfl) ?_
          refine go_lload_n (pc' := 98) dX11_times_97 rfl rfl ?_
          refine go_lload_n (pc' := 99) dX11_times_98 rfl rfl ?_
          obtain ⟨g13, h⟩ := gd h
          refine go_lmul (pc' := 100) dX11_times_99 rfl g13 ?_
          obtain ⟨v14, k15, h⟩ := bd h
          have k15 := l_M_bound (d + 0) n e σ (x1 * x2) _ k15
          refine go_call (kc := 213) (Mc := mt213) (v := some (pvL v14)) (w' := (true, n, e, σ)) (pc' := 103) (st' := [pvL v14]) [pvR 11 0 129, pvL (x1 * x2)] [] (Or.inl rfl) dX11_times_100 rfl rm_11_281 mtE213 rfl rfl rfl (Nat.le_of_ble_eq_true rfl) (Or.inr ⟨_, _, 129, rfl, Or.inl rfl⟩) k15 rfl ?_
          cases h
          exact k12J
        · rw [if_neg (show ¬ (j7 = 0) from c23)] at h
          refine go_lload_n (pc' := 60) dX11_times_59 rfl rfl ?_
          refine go_lconst (z := 0) (pc' := 61) dX11_times_60 rfl rfl ?_
          refine go_lcmp (pc' := 62) dX11_times_61 rfl ?_
          obtain ⟨j16, k17, h⟩ := bd h
          have k17J : Go none (Ev (d + 1)) mt216 70 [some (pvR 11 0 129), some (pvL x1), none, some (pvL x2), none, some (pvL j1), none, some (pvL j4), none, some (pvI j7)] [pvI j16] (true, n, e, σ) (0, some (pvL r), true, n, e, σ) := by
            refine go_lload_n (pc' := 71) dX11_times_70 rfl rfl ?_
            refine go_lconst (z := 0) (pc' := 72) dX11_times_71 rfl rfl ?_
            refine go_lcmp (pc' := 73) dX11_times_72 rfl ?_
            obtain ⟨j18, k19, h⟩ := bd h
            have k19J : Go none (Ev (d + 1)) mt216 81 [some (pvR 11 0 129), some (pvL x1), none, some (pvL x2), none, some (pvL j1), none, some (pvL j4), none, some (pvI j7)] [pvI j18, pvI j16] (true, n, e, σ) (0, some (pvL r), true, n, e, σ) := by
              refine go_icmp_ne (t := 90) (pc' := 84) dX11_times_81 rfl rfl (fun c20 => ?_) (fun c20 => ?_)
              · rw [if_pos (show j16 ≠ j18 from c20)] at h
                refine go_ldc2 (pc' := 93) dX11_times_90 rfl (r64_c rfl) rc_11_266 ?_
                refine go_goto (t := 103) dX11_times_93 rfl ?_
                cases h
                exact k12J
              · rw [if_neg (show ¬ (j16 ≠ j18) from c20)] at h
                refine go_ldc2 (pc' := 87) dX11_times_84 rfl (r64_c rfl) rc_11_264 ?_
                refine go_goto (t := 103) dX11_times_87 rfl ?_
                cases h
                exact k12J
            clear h
            have h := k19
            refine go_if_ge (t := 80) (pc' := 76) dX11_times_73 rfl rfl (fun c21 => ?_) (fun c21 => ?_)
            · rw [if_pos (show 0 ≤ (lcm x2 0) from c21)] at h
              refine go_iconst (pc' := 81) dX11_times_80 rfl (r32_c rfl) ?_
              cases h
              exact k19J
            · rw [if_neg (show ¬ (0 ≤ (lcm x2 0)) from c21)] at h
              refine go_iconst (pc' := 77) dX11_times_76 rfl (r32_c rfl) ?_
              refine go_goto (t := 81) dX11_times_77 rfl ?_
              cases h
              exact k19J
          clear h
          have h := k17
          refine go_if_ge (t := 69) (pc' := 65) dX11_times_62 rfl rfl (fun c22 => ?_) (fun c22 => ?_)
          · rw [if_pos (show 0 ≤ (lcm x1 0) from c22)] at h
            refine go_iconst (pc' := 70) dX11_times_69 rfl (r32_c rfl) ?_
            cases h
            exact k17J
          · rw [if_neg (show ¬ (0 ≤ (lcm x1 0)) from c22)] at h
            refine go_iconst (pc' := 66) dX11_times_65 rfl (r32_c rfl) ?_
            refine go_goto (t := 70) dX11_times_66 rfl ?_
            cases h
            exact k17J
      clear h
      have h := k8
      refine go_if_le (t := 51) (pc' := 35) dX11_times_32 rfl rfl (fun c24 => ?_) (fun c24 => ?_)
      · rw [if_pos (show (lcm j1 0) ≤ 0 from c24)] at h
        refine go_iconst (pc' := 52) dX11_times_51 rfl (r32_c rfl) ?_
        cases h
        exact k8J
      · rw [if_neg (show ¬ ((lcm j1 0) ≤ 0) from c24)] at h
        refine go_lload (pc' := 37) dX11_times_35 rfl rfl ?_
        refine go_ldc2 (pc' := 40) dX11_times_37 rfl (r64_c rfl) rc_11_264 ?_
        refine go_lload (pc' := 42) dX11_times_40 rfl rfl ?_
        obtain ⟨g9, h⟩ := gd h
        refine go_ldiv (pc' := 43) dX11_times_42 rfl g9 ?_
        refine go_lcmp (pc' := 44) dX11_times_43 rfl ?_
        refine go_if_le (t := 51) (pc' := 47) dX11_times_44 rfl rfl (fun c10 => ?_) (fun c10 => ?_)
        · rw [if_pos (show (lcm j4 (Int.tdiv 1000000000000 j1)) ≤ 0 from c10)] at h
          refine go_iconst (pc' := 52) dX11_times_51 rfl (r32_c rfl) ?_
          cases h
          exact k8J
        · rw [if_neg (show ¬ ((lcm j4 (Int.tdiv 1000000000000 j1)) ≤ 0) from c10)] at h
          refine go_iconst (pc' := 48) dX11_times_47 rfl (r32_c rfl) ?_
          refine go_goto (t := 52) dX11_times_48 rfl ?_
          cases h
          exact k8J
    clear h
    have h := k5
    refine go_if_ge (t := 25) (pc' := 20) dX11_times_17 rfl rfl (fun c25 => ?_) (fun c25 => ?_)
    · rw [if_pos (show 0 ≤ (lcm x2 0) from c25)] at h
      refine go_lload_n (pc' := 26) dX11_times_25 rfl rfl ?_
      cases h
      exact k5J
    · rw [if_neg (show ¬ (0 ≤ (lcm x2 0)) from c25)] at h
      refine go_lload_n (pc' := 21) dX11_times_20 rfl rfl ?_
      obtain ⟨g6, h⟩ := gd h
      refine go_lneg (pc' := 22) dX11_times_21 rfl g6 ?_
      refine go_goto (t := 26) dX11_times_22 rfl ?_
      cases h
      exact k5J
  clear h
  have h := k2
  refine go_if_ge (t := 11) (pc' := 6) dX11_times_3 rfl rfl (fun c26 => ?_) (fun c26 => ?_)
  · rw [if_pos (show 0 ≤ (lcm x1 0) from c26)] at h
    refine go_lload_n (pc' := 12) dX11_times_11 rfl rfl ?_
    cases h
    exact k2J
  · rw [if_neg (show ¬ (0 ≤ (lcm x1 0)) from c26)] at h
    refine go_lload_n (pc' := 7) dX11_times_6 rfl rfl ?_
    obtain ⟨g3, h⟩ := gd h
    refine go_lneg (pc' := 8) dX11_times_7 rfl g3 ?_
    refine go_goto (t := 12) dX11_times_8 rfl ?_
    cases h
    exact k2J

set_option maxRecDepth 10000 in
theorem l_M_joined (d : Nat) (n e : Nat) (σ : Hp) (x1 : Int) (x2 : Int) (x3 : Int) (r : Int) (h : f_M_joined σ x1 x2 x3 = some r) : Ev (d + 3) 215 [pvR 11 0 129, pvI x1, pvL x2, pvL x3] (true, n, e, σ) (0, some (pvL r), true, n, e, σ) := by
  unfold f_M_joined at h
  refine Ev.of mtE215 rfl rfl rfl rfl ?_
  show Go none (Ev (d + 2)) mt215 0 [some (pvR 11 0 129), some (pvI x1), some (pvL x2), none, some (pvL x3), none, none, none] [] (true, n, e, σ) (0, some (pvL r), true, n, e, σ)
  refine go_iload_n (pc' := 1) dX11_joined_0 rfl rfl ?_
  refine go_iconst (pc' := 2) dX11_joined_1 rfl (r32_c rfl) ?_
  refine go_icmp_eq (t := 10) (pc' := 5) dX11_joined_2 rfl rfl (fun c66 => ?_) (fun c66 => ?_)
  · rw [if_pos (show x1 = 3 from c66)] at h
    refine go_lload (pc' := 12) dX11_joined_10 rfl rfl ?_
    refine go_ldc2 (pc' := 15) dX11_joined_12 rfl (r64_c rfl) rc_11_262 ?_
    refine go_lcmp (pc' := 16) dX11_joined_15 rfl ?_
    obtain ⟨j1, k2, h⟩ := bd h
    have k2J : Go none (Ev (d + 2)) mt215 36 [some (pvR 11 0 129), some (pvI x1), some (pvL x2), none, some (pvL x3), none, none, none] [pvL j1] (true, n, e, σ) (0, some (pvL r), true, n, e, σ) := by
      refine go_lstore (L' := [some (pvR 11 0 129), some (pvI x1), some (pvL x2), none, some (pvL x3), none, some (pvL j1), none]) (pc' := 38) dX11_joined_36 rfl (Nat.le_of_ble_eq_true rfl) rfl ?_
      refine go_lload_n (pc' := 39) dX11_joined_38 rfl rfl ?_
      refine go_ldc2 (pc' := 42) dX11_joined_39 rfl (r64_c rfl) rc_11_262 ?_
      refine go_lcmp (pc' := 43) dX11_joined_42 rfl ?_
      obtain ⟨j5, k6, h⟩ := bd h
      have k6J : Go none (Ev (d + 2)) mt215 81 [some (pvR 11 0 129), some (pvI x1), some (pvL x2), none, some (pvL x3), none, some (pvL j1), none] [pvL j5] (true, n, e, σ) (0, some (pvL r), true, n, e, σ) := by
        cases h
        exact go_lret dX11_joined_81 rfl rfl
      clear h
      have h := k6
      refine go_if_ne (t := 61) (pc' := 46) dX11_joined_43 rfl rfl (fun c20 => ?_) (fun c20 => ?_)
      · rw [if_pos (show (lcm x2 (-9223372036854775808)) ≠ 0 from c20)] at h
        refine go_aload_n (pc' := 62) dX11_joined_61 rfl rfl (Nat.le_of_ble_eq_true rfl) ?_
        refine go_lload_n (pc' := 63) dX11_joined_62 rfl rfl ?_
        refine go_ldc2 (pc' := 66) dX11_joined_63 rfl (r64_c rfl) rc_11_262 ?_
        refine go_lcmp (pc' := 67) dX11_joined_66 rfl ?_
        obtain ⟨j7, k8, h⟩ := bd h
        have k8J : Go none (Ev (d + 2)) mt215 75 [some (pvR 11 0 129), some (pvI x1), some (pvL x2), none, some (pvL x3), none, some (pvL j1), none] [pvL j7, pvR 11 0 129] (true, n, e, σ) (0, some (pvL r), true, n, e, σ) := by
          refine go_lload (pc' := 77) dX11_joined_75 rfl rfl ?_
          obtain ⟨g9, h⟩ := gd h
          refine go_ladd (pc' := 78) dX11_joined_77 rfl g9 ?_
          obtain ⟨v10, k11, h⟩ := bd h
          have k11 := l_M_bound (d + 1) n e σ (j7 + j1) _ k11
          refine go_call (kc := 213) (Mc := mt213) (v := some (pvL v10)) (w' := (true, n, e, σ)) (pc' := 81) (st' := [pvL v10]) [pvR 11 0 129, pvL (j7 + j1)] [] (Or.inl rfl) dX11_joined_78 rfl rm_11_281 mtE213 rfl rfl rfl (Nat.le_of_ble_eq_true rfl) (Or.inr ⟨_, _, 129, rfl, Or.inl rfl⟩) k11 rfl ?_
          cases h
          exact k6J
        clear h
        have h := k8
        refine go_if_ne (t := 74) (pc' := 70) dX11_joined_67 rfl rfl (fun c12 => ?_) (fun c12 => ?_)
        · rw [if_pos (show (lcm x2 (-9223372036854775808)) ≠ 0 from c12)] at h
          refine go_lload_n (pc' := 75) dX11_joined_74 rfl rfl ?_
          cases h
          exact k8J
        · rw [if_neg (show ¬ ((lcm x2 (-9223372036854775808)) ≠ 0) from c12)] at h
          refine go_lconst (z := 0) (pc' := 71) dX11_joined_70 rfl rfl ?_
          refine go_goto (t := 75) dX11_joined_71 rfl ?_
          cases h
          exact k8J
      · rw [if_neg (show ¬ ((lcm x2 (-9223372036854775808)) ≠ 0) from c20)] at h
        refine go_lload (pc' := 48) dX11_joined_46 rfl rfl ?_
        refine go_ldc2 (pc' := 51) dX11_joined_48 rfl (r64_c rfl) rc_11_262 ?_
        refine go_lcmp (pc' := 52) dX11_joined_51 rfl ?_
        refine go_if_ne (t := 61) (pc' := 55) dX11_joined_52 rfl rfl (fun c19 => ?_) (fun c19 => ?_)
        · rw [if_pos (show (lcm x3 (-9223372036854775808)) ≠ 0 from c19)] at h
          refine go_aload_n (pc' := 62) dX11_joined_61 rfl rfl (Nat.le_of_ble_eq_true rfl) ?_
          refine go_lload_n (pc' := 63) dX11_joined_62 rfl rfl ?_
          refine go_ldc2 (pc' := 66) dX11_joined_63 rfl (r64_c rfl) rc_11_262 ?_
          refine go_lcmp (pc' := 67) dX11_joined_66 rfl ?_
          obtain ⟨j13, k14, h⟩ := bd h
          have k14J : Go none (Ev (d + 2)) mt215 75 [some (pvR 11 0 129), some (pvI x1), some (pvL x2), none, some (pvL x3), none, some (pvL j1), none] [pvL j13, pvR 11 0 129] (true, n, e, σ) (0, some (pvL r), true, n, e, σ) := by
            refine go_lload (pc' := 77) dX11_joined_75 rfl rfl ?_
            obtain ⟨g15, h⟩ := gd h
            refine go_ladd (pc' := 78) dX11_joined_77 rfl g15 ?_
            obtain ⟨v16, k17, h⟩ := bd h
            have k17 := l_M_bound (d + 1) n e σ (j13 + j1) _ k17
            refine go_call (kc := 213) (Mc := mt213) (v := some (pvL v16)) (w' := (true, n, e, σ)) (pc' := 81) (st' := [pvL v16]) [pvR 11 0 129, pvL (j13 + j1)] [] (Or.inl rfl) dX11_joined_78 rfl rm_11_281 mtE213 rfl rfl rfl (Nat.le_of_ble_eq_true rfl) (Or.inr ⟨_, _, 129, rfl, Or.inl rfl⟩) k17 rfl ?_
            cases h
            exact k6J
          clear h
          have h := k14
          refine go_if_ne (t := 74) (pc' := 70) dX11_joined_67 rfl rfl (fun c18 => ?_) (fun c18 => ?_)
          · rw [if_pos (show (lcm x2 (-9223372036854775808)) ≠ 0 from c18)] at h
            refine go_lload_n (pc' := 75) dX11_joined_74 rfl rfl ?_
            cases h
            exact k14J
          · rw [if_neg (show ¬ ((lcm x2 (-9223372036854775808)) ≠ 0) from c18)] at h
            refine go_lconst (z := 0) (pc' := 71) dX11_joined_70 rfl rfl ?_
            refine go_goto (t := 75) dX11_joined_71 rfl ?_
            cases h
            exact k14J
        · rw [if_neg (show ¬ ((lcm x3 (-9223372036854775808)) ≠ 0) from c19)] at h
          refine go_ldc2 (pc' := 58) dX11_joined_55 rfl (r64_c rfl) rc_11_262 ?_
          refine go_goto (t := 81) dX11_joined_58 rfl ?_
          cases h
          exact k6J
    clear h
    have h := k2
    refine go_if_ne (t := 23) (pc' := 19) dX11_joined_16 rfl rfl (fun c21 => ?_) (fun c21 => ?_)
    · rw [if_pos (show (lcm x3 (-9223372036854775808)) ≠ 0 from c21)] at h
      refine go_iload_n (pc' := 24) dX11_joined_23 rfl rfl ?_
      refine go_iconst (pc' := 25) dX11_joined_24 rfl (r32_c rfl) ?_
      refine go_icmp_ne (t := 33) (pc' := 28) dX11_joined_25 rfl rfl (fun c4 => ?_) (fun c4 => ?_)
      · rw [if_pos (show x1 ≠ 3 from c4)] at h
        refine go_lload (pc' := 35) dX11_joined_33 rfl rfl ?_
        obtain ⟨g3, h⟩ := gd h
        refine go_lneg (pc' := 36) dX11_joined_35 rfl g3 ?_
        cases h
        exact k2J
      · rw [if_neg (show ¬ (x1 ≠ 3) from c4)] at h
        refine go_lload (pc' := 30) dX11_joined_28 rfl rfl ?_
        refine go_goto (t := 36) dX11_joined_30 rfl ?_
        cases h
        exact k2J
    · rw [if_neg (show ¬ ((lcm x3 (-9223372036854775808)) ≠ 0) from c21)] at h
      refine go_lconst (z := 0) (pc' := 20) dX11_joined_19 rfl rfl ?_
      refine go_goto (t := 36) dX11_joined_20 rfl ?_
      cases h
      exact k2J
  · rw [if_neg (show ¬ (x1 = 3) from c66)] at h
    refine go_iload_n (pc' := 6) dX11_joined_5 rfl rfl ?_
    refine go_iconst (pc' := 7) dX11_joined_6 rfl (r32_c rfl) ?_
    refine go_icmp_ne (t := 82) (pc' := 10) dX11_joined_7 rfl rfl (fun c65 => ?_) (fun c65 => ?_)
    · rw [if_pos (show x1 ≠ 4 from c65)] at h
      refine go_lload_n (pc' := 83) dX11_joined_82 rfl rfl ?_
      refine go_ldc2 (pc' := 86) dX11_joined_83 rfl (r64_c rfl) rc_11_262 ?_
      refine go_lcmp (pc' := 87) dX11_joined_86 rfl ?_
      refine go_if_eq (t := 112) (pc' := 90) dX11_joined_87 rfl rfl (fun c43 => ?_) (fun c43 => ?_)
      · rw [if_pos (show (lcm x2 (-9223372036854775808)) = 0 from c43)] at h
        refine go_ldc2 (pc' := 115) dX11_joined_112 rfl (r64_c rfl) rc_11_262 ?_
        cases h
        exact go_lret dX11_joined_115 rfl rfl
      · rw [if_neg (show ¬ ((lcm x2 (-9223372036854775808)) = 0) from c43)] at h
        refine go_lload (pc' := 92) dX11_joined_90 rfl rfl ?_
        refine go_ldc2 (pc' := 95) dX11_joined_92 rfl (r64_c rfl) rc_11_262 ?_
        refine go_lcmp (pc' := 96) dX11_joined_95 rfl ?_
        refine go_if_eq (t := 112) (pc' := 99) dX11_joined_96 rfl rfl (fun c42 => ?_) (fun c42 => ?_)
        · rw [if_pos (show (lcm x3 (-9223372036854775808)) = 0 from c42)] at h
          refine go_ldc2 (pc' := 115) dX11_joined_112 rfl (r64_c rfl) rc_11_262 ?_
          cases h
          exact go_lret dX11_joined_115 rfl rfl
        · rw [if_neg (show ¬ ((lcm x3 (-9223372036854775808)) = 0) from c42)] at h
          refine go_iload_n (pc' := 100) dX11_joined_99 rfl rfl ?_
          refine go_bipush (pc' := 102) dX11_joined_100 rfl (r32_c rfl) (by decide) ?_
          refine go_icmp_ne (t := 116) (pc' := 105) dX11_joined_102 rfl rfl (fun c41 => ?_) (fun c41 => ?_)
          · rw [if_pos (show x1 ≠ 6 from c41)] at h
            refine go_iload_n (pc' := 117) dX11_joined_116 rfl rfl ?_
            refine go_iconst (pc' := 118) dX11_joined_117 rfl (r32_c rfl) ?_
            obtain ⟨j22, k23, h⟩ := bd h
            have k23J : Go none (Ev (d + 2)) mt215 143 [some (pvR 11 0 129), some (pvI x1), some (pvL x2), none, some (pvL x3), none, none, none] [pvL j22] (true, n, e, σ) (0, some (pvL r), true, n, e, σ) := by
              cases h
              exact go_lret dX11_joined_143 rfl rfl
            clear h
            have h := k23
            refine go_icmp_ne (t := 131) (pc' := 121) dX11_joined_118 rfl rfl (fun c30 => ?_) (fun c30 => ?_)
            · rw [if_pos (show x1 ≠ 5 from c30)] at h
              refine go_aload_n (pc' := 132) dX11_joined_131 rfl rfl (Nat.le_of_ble_eq_true rfl) ?_
              refine go_ldc2 (pc' := 135) dX11_joined_132 rfl (r64_c rfl) rc_11_279 ?_
              refine go_lload_n (pc' := 136) dX11_joined_135 rfl rfl ?_
              obtain ⟨g24, h⟩ := gd h
              refine go_lmul (pc' := 137) dX11_joined_136 rfl g24 ?_
              refine go_lload (pc' := 139) dX11_joined_137 rfl rfl ?_
              obtain ⟨g25, h⟩ := gd h
              refine go_ldiv (pc' := 140) dX11_joined_139 rfl g25 ?_
              obtain ⟨v26, k27, h⟩ := bd h
              have k27 := l_M_bound (d + 1) n e σ (Int.tdiv (1000 * x2) x3) _ k27
              refine go_call (kc := 213) (Mc := mt213) (v := some (pvL v26)) (w' := (true, n, e, σ)) (pc' := 143) (st' := [pvL v26]) [pvR 11 0 129, pvL (Int.tdiv (1000 * x2) x3)] [] (Or.inl rfl) dX11_joined_140 rfl rm_11_281 mtE213 rfl rfl rfl (Nat.le_of_ble_eq_true rfl) (Or.inr ⟨_, _, 129, rfl, Or.inl rfl⟩) k27 rfl ?_
              cases h
              exact k23J
            · rw [if_neg (show ¬ (x1 ≠ 5) from c30)] at h
              refine go_aload_n (pc' := 122) dX11_joined_121 rfl rfl (Nat.le_of_ble_eq_true rfl) ?_
              refine go_lload_n (pc' := 123) dX11_joined_122 rfl rfl ?_
              refine go_lload (pc' := 125) dX11_joined_123 rfl rfl ?_
              obtain ⟨v28, k29, h⟩ := bd h
              have k29 := l_M_times (d + 0) n e σ x2 x3 _ k29
              refine go_call (kc := 216) (Mc := mt216) (v := some (pvL v28)) (w' := (true, n, e, σ)) (pc' := 128) (st' := [pvL v28]) [pvR 11 0 129, pvL x2, pvL x3] [] (Or.inl rfl) dX11_joined_125 rfl rm_11_289 mtE216 rfl rfl rfl (Nat.le_of_ble_eq_true rfl) (Or.inr ⟨_, _, 129, rfl, Or.inl rfl⟩) k29 rfl ?_
              refine go_goto (t := 143) dX11_joined_128 rfl ?_
              cases h
              exact k23J
          · rw [if_neg (show ¬ (x1 ≠ 6) from c41)] at h
            refine go_lload (pc' := 107) dX11_joined_105 rfl rfl ?_
            refine go_lconst (z := 0) (pc' := 108) dX11_joined_107 rfl rfl ?_
            refine go_lcmp (pc' := 109) dX11_joined_108 rfl ?_
            refine go_if_ne (t := 116) (pc' := 112) dX11_joined_109 rfl rfl (fun c40 => ?_) (fun c40 => ?_)
            · rw [if_pos (show (lcm x3 0) ≠ 0 from c40)] at h
              refine go_iload_n (pc' := 117) dX11_joined_116 rfl rfl ?_
              refine go_iconst (pc' := 118) dX11_joined_117 rfl (r32_c rfl) ?_
              obtain ⟨j31, k32, h⟩ := bd h
              have k32J : Go none (Ev (d + 2)) mt215 143 [some (pvR 11 0 129), some (pvI x1), some (pvL x2), none, some (pvL x3), none, none, none] [pvL j31] (true, n, e, σ) (0, some (pvL r), true, n, e, σ) := by
                cases h
                exact go_lret dX11_joined_143 rfl rfl
              clear h
              have h := k32
              refine go_icmp_ne (t := 131) (pc' := 121) dX11_joined_118 rfl rfl (fun c39 => ?_) (fun c39 => ?_)
              · rw [if_pos (show x1 ≠ 5 from c39)] at h
                refine go_aload_n (pc' := 132) dX11_joined_131 rfl rfl (Nat.le_of_ble_eq_true rfl) ?_
                refine go_ldc2 (pc' := 135) dX11_joined_132 rfl (r64_c rfl) rc_11_279 ?_
                refine go_lload_n (pc' := 136) dX11_joined_135 rfl rfl ?_
                obtain ⟨g33, h⟩ := gd h
                refine go_lmul (pc' := 137) dX11_joined_136 rfl g33 ?_
                refine go_lload (pc' := 139) dX11_joined_137 rfl rfl ?_
                obtain ⟨g34, h⟩ := gd h
                refine go_ldiv (pc' := 140) dX11_joined_139 rfl g34 ?_
                obtain ⟨v35, k36, h⟩ := bd h
                have k36 := l_M_bound (d + 1) n e σ (Int.tdiv (1000 * x2) x3) _ k36
                refine go_call (kc := 213) (Mc := mt213) (v := some (pvL v35)) (w' := (true, n, e, σ)) (pc' := 143) (st' := [pvL v35]) [pvR 11 0 129, pvL (Int.tdiv (1000 * x2) x3)] [] (Or.inl rfl) dX11_joined_140 rfl rm_11_281 mtE213 rfl rfl rfl (Nat.le_of_ble_eq_true rfl) (Or.inr ⟨_, _, 129, rfl, Or.inl rfl⟩) k36 rfl ?_
                cases h
                exact k32J
              · rw [if_neg (show ¬ (x1 ≠ 5) from c39)] at h
                refine go_aload_n (pc' := 122) dX11_joined_121 rfl rfl (Nat.le_of_ble_eq_true rfl) ?_
                refine go_lload_n (pc' := 123) dX11_joined_122 rfl rfl ?_
                refine go_lload (pc' := 125) dX11_joined_123 rfl rfl ?_
                obtain ⟨v37, k38, h⟩ := bd h
                have k38 := l_M_times (d + 0) n e σ x2 x3 _ k38
                refine go_call (kc := 216) (Mc := mt216) (v := some (pvL v37)) (w' := (true, n, e, σ)) (pc' := 128) (st' := [pvL v37]) [pvR 11 0 129, pvL x2, pvL x3] [] (Or.inl rfl) dX11_joined_125 rfl rm_11_289 mtE216 rfl rfl rfl (Nat.le_of_ble_eq_true rfl) (Or.inr ⟨_, _, 129, rfl, Or.inl rfl⟩) k38 rfl ?_
                refine go_goto (t := 143) dX11_joined_128 rfl ?_
                cases h
                exact k32J
            · rw [if_neg (show ¬ ((lcm x3 0) ≠ 0) from c40)] at h
              refine go_ldc2 (pc' := 115) dX11_joined_112 rfl (r64_c rfl) rc_11_262 ?_
              cases h
              exact go_lret dX11_joined_115 rfl rfl
    · rw [if_neg (show ¬ (x1 ≠ 4) from c65)] at h
      refine go_lload (pc' := 12) dX11_joined_10 rfl rfl ?_
      refine go_ldc2 (pc' := 15) dX11_joined_12 rfl (r64_c rfl) rc_11_262 ?_
      refine go_lcmp (pc' := 16) dX11_joined_15 rfl ?_
      obtain ⟨j44, k45, h⟩ := bd h
      have k45J : Go none (Ev (d + 2)) mt215 36 [some (pvR 11 0 129), some (pvI x1), some (pvL x2), none, some (pvL x3), none, none, none] [pvL j44] (true, n, e, σ) (0, some (pvL r), true, n, e, σ) := by
        refine go_lstore (L' := [some (pvR 11 0 129), some (pvI x1), some (pvL x2), none, some (pvL x3), none, some (pvL j44), none]) (pc' := 38) dX11_joined_36 rfl (Nat.le_of_ble_eq_true rfl) rfl ?_
        refine go_lload_n (pc' := 39) dX11_joined_38 rfl rfl ?_
        refine go_ldc2 (pc' := 42) dX11_joined_39 rfl (r64_c rfl) rc_11_262 ?_
        refine go_lcmp (pc' := 43) dX11_joined_42 rfl ?_
        obtain ⟨j48, k49, h⟩ := bd h
        have k49J : Go none (Ev (d + 2)) mt215 81 [some (pvR 11 0 129), some (pvI x1), some (pvL x2), none, some (pvL x3), none, some (pvL j44), none] [pvL j48] (true, n, e, σ) (0, some (pvL r), true, n, e, σ) := by
          cases h
          exact go_lret dX11_joined_81 rfl rfl
        clear h
        have h := k49
        refine go_if_ne (t := 61) (pc' := 46) dX11_joined_43 rfl rfl (fun c63 => ?_) (fun c63 => ?_)
        · rw [if_pos (show (lcm x2 (-9223372036854775808)) ≠ 0 from c63)] at h
          refine go_aload_n (pc' := 62) dX11_joined_61 rfl rfl (Nat.le_of_ble_eq_true rfl) ?_
          refine go_lload_n (pc' := 63) dX11_joined_62 rfl rfl ?_
          refine go_ldc2 (pc' := 66) dX11_joined_63 rfl (r64_c rfl) rc_11_262 ?_
          refine go_lcmp (pc' := 67) dX11_joined_66 rfl ?_
          obtain ⟨j50, k51, h⟩ := bd h
          have k51J : Go none (Ev (d + 2)) mt215 75 [some (pvR 11 0 129), some (pvI x1), some (pvL x2), none, some (pvL x3), none, some (pvL j44), none] [pvL j50, pvR 11 0 129] (true, n, e, σ) (0, some (pvL r), true, n, e, σ) := by
            refine go_lload (pc' := 77) dX11_joined_75 rfl rfl ?_
            obtain ⟨g52, h⟩ := gd h
            refine go_ladd (pc' := 78) dX11_joined_77 rfl g52 ?_
            obtain ⟨v53, k54, h⟩ := bd h
            have k54 := l_M_bound (d + 1) n e σ (j50 + j44) _ k54
            refine go_call (kc := 213) (Mc := mt213) (v := some (pvL v53)) (w' := (true, n, e, σ)) (pc' := 81) (st' := [pvL v53]) [pvR 11 0 129, pvL (j50 + j44)] [] (Or.inl rfl) dX11_joined_78 rfl rm_11_281 mtE213 rfl rfl rfl (Nat.le_of_ble_eq_true rfl) (Or.inr ⟨_, _, 129, rfl, Or.inl rfl⟩) k54 rfl ?_
            cases h
            exact k49J
          clear h
          have h := k51
          refine go_if_ne (t := 74) (pc' := 70) dX11_joined_67 rfl rfl (fun c55 => ?_) (fun c55 => ?_)
          · rw [if_pos (show (lcm x2 (-9223372036854775808)) ≠ 0 from c55)] at h
            refine go_lload_n (pc' := 75) dX11_joined_74 rfl rfl ?_
            cases h
            exact k51J
          · rw [if_neg (show ¬ ((lcm x2 (-9223372036854775808)) ≠ 0) from c55)] at h
            refine go_lconst (z := 0) (pc' := 71) dX11_joined_70 rfl rfl ?_
            refine go_goto (t := 75) dX11_joined_71 rfl ?_
            cases h
            exact k51J
        · rw [if_neg (show ¬ ((lcm x2 (-9223372036854775808)) ≠ 0) from c63)] at h
          refine go_lload (pc' := 48) dX11_joined_46 rfl rfl ?_
          refine go_ldc2 (pc' := 51) dX11_joined_48 rfl (r64_c rfl) rc_11_262 ?_
          refine go_lcmp (pc' := 52) dX11_joined_51 rfl ?_
          refine go_if_ne (t := 61) (pc' := 55) dX11_joined_52 rfl rfl (fun c62 => ?_) (fun c62 => ?_)
          · rw [if_pos (show (lcm x3 (-9223372036854775808)) ≠ 0 from c62)] at h
            refine go_aload_n (pc' := 62) dX11_joined_61 rfl rfl (Nat.le_of_ble_eq_true rfl) ?_
            refine go_lload_n (pc' := 63) dX11_joined_62 rfl rfl ?_
            refine go_ldc2 (pc' := 66) dX11_joined_63 rfl (r64_c rfl) rc_11_262 ?_
            refine go_lcmp (pc' := 67) dX11_joined_66 rfl ?_
            obtain ⟨j56, k57, h⟩ := bd h
            have k57J : Go none (Ev (d + 2)) mt215 75 [some (pvR 11 0 129), some (pvI x1), some (pvL x2), none, some (pvL x3), none, some (pvL j44), none] [pvL j56, pvR 11 0 129] (true, n, e, σ) (0, some (pvL r), true, n, e, σ) := by
              refine go_lload (pc' := 77) dX11_joined_75 rfl rfl ?_
              obtain ⟨g58, h⟩ := gd h
              refine go_ladd (pc' := 78) dX11_joined_77 rfl g58 ?_
              obtain ⟨v59, k60, h⟩ := bd h
              have k60 := l_M_bound (d + 1) n e σ (j56 + j44) _ k60
              refine go_call (kc := 213) (Mc := mt213) (v := some (pvL v59)) (w' := (true, n, e, σ)) (pc' := 81) (st' := [pvL v59]) [pvR 11 0 129, pvL (j56 + j44)] [] (Or.inl rfl) dX11_joined_78 rfl rm_11_281 mtE213 rfl rfl rfl (Nat.le_of_ble_eq_true rfl) (Or.inr ⟨_, _, 129, rfl, Or.inl rfl⟩) k60 rfl ?_
              cases h
              exact k49J
            clear h
            have h := k57
            refine go_if_ne (t := 74) (pc' := 70) dX11_joined_67 rfl rfl (fun c61 => ?_) (fun c61 => ?_)
            · rw [if_pos (show (lcm x2 (-9223372036854775808)) ≠ 0 from c61)] at h
              refine go_lload_n (pc' := 75) dX11_joined_74 rfl rfl ?_
              cases h
              exact k57J
            · rw [if_neg (show ¬ ((lcm x2 (-9223372036854775808)) ≠ 0) from c61)] at h
              refine go_lconst (z := 0) (pc' := 71) dX11_joined_70 rfl rfl ?_
              refine go_goto (t := 75) dX11_joined_71 rfl ?_
              cases h
              exact k57J
          · rw [if_neg (show ¬ ((lcm x3 (-9223372036854775808)) ≠ 0) from c62)] at h
            refine go_ldc2 (pc' := 58) dX11_joined_55 rfl (r64_c rfl) rc_11_262 ?_
            refine go_goto (t := 81) dX11_joined_58 rfl ?_
            cases h
            exact k49J
      clear h
      have h := k45
      refine go_if_ne (t := 23) (pc' := 19) dX11_joined_16 rfl rfl (fun c64 => ?_) (fun c64 => ?_)
      · rw [if_pos (show (lcm x3 (-9223372036854775808)) ≠ 0 from c64)] at h
        refine go_iload_n (pc' := 24) dX11_joined_23 rfl rfl ?_
        refine go_iconst (pc' := 25) dX11_joined_24 rfl (r32_c rfl) ?_
        refine go_icmp_ne (t := 33) (pc' := 28) dX11_joined_25 rfl rfl (fun c47 => ?_) (fun c47 => ?_)
        · rw [if_pos (show x1 ≠ 3 from c47)] at h
          refine go_lload (pc' := 35) dX11_joined_33 rfl rfl ?_
          obtain ⟨g46, h⟩ := gd h
          refine go_lneg (pc' := 36) dX11_joined_35 rfl g46 ?_
          cases h
          exact k45J
        · rw [if_neg (show ¬ (x1 ≠ 3) from c47)] at h
          refine go_lload (pc' := 30) dX11_joined_28 rfl rfl ?_
          refine go_goto (t := 36) dX11_joined_30 rfl ?_
          cases h
          exact k45J
      · rw [if_neg (show ¬ ((lcm x3 (-9223372036854775808)) ≠ 0) from c64)] at h
        refine go_lconst (z := 0) (pc' := 20) dX11_joined_19 rfl rfl ?_
        refine go_goto (t := 36) dX11_joined_20 rfl ?_
        cases h
        exact k45J

set_option maxRecDepth 10000 in
theorem l_M_date_19 (V : Hp → Int → Int → Int → Int → Int → Option (Int × Hp)) (u : Nat) (hV : ∀ (d n e : Nat) (σ : Hp) (x1 : Int) (x2 : Int) (x3 : Int) (x4 : Int) (x5 : Int) (r : Int × Hp), V σ x1 x2 x3 x4 x5 = some r → Ev (d + u) 209 [pvR 11 0 129, pvI x1, pvI x2, pvI x3, pvI x4, pvI x5] (true, n, e, σ) (0, some (pvL r.1), true, n, e, r.2)) (d : Nat) (n : Nat) (e : Nat) (x1 : Int) (x2 : Int) (x3 : Int) (x4 : Int) (x5 : Int) (x6 : Int) (x7 : Int) (j1 : Int) {out : Out} : ∀ (F : Nat) (y3 : Int) (y4 : Int) (σ5 : Hp) (j35 : Int × Int × Hp), f_M_date_19 V x1 x2 x4 x5 x6 x7 j1 F y3 y4 σ5 = some j35 → Go none (Ev (d + u + 3)) mt214 144 [some (pvR 11 0 129), some (pvI x1), some (pvI x2), some (pvI x3), some (pvI x4), some (pvI x5), some (pvI x6), some (pvI x7), some (pvI j1), some (pvL j35.1), none, some (pvI j35.2.1), none] [] (true, n, e, j35.2.2) out → Go none (Ev (d + u + 3)) mt214 19 [some (pvR 11 0 129), some (pvI x1), some (pvI x2), some (pvI x3), some (pvI x4), some (pvI x5), some (pvI x6), some (pvI x7), some (pvI j1), some (pvL y3), none, some (pvI y4), none] [] (true, n, e, σ5) out := by
  intro F
  induction F with
  | zero =>
    intro _ _ _ _ h
    intro _
    rw [f_M_date_19] at h
    cases h
  | succ F ih =>
    intro y3 y4 σ5 j35 h hx
    rw [f_M_date_19] at h
    refine go_iload (pc' := 21) dX11_date_19 rfl rfl ?_
    refine go_iload (pc' := 23) dX11_date_21 rfl rfl ?_
    refine go_icmp_gt (t := 144) (pc' := 26) dX11_date_23 rfl rfl (fun c34 => ?_) (fun c34 => ?_)
    · rw [if_pos (show j1 < y4 from c34)] at h
      cases h
      exact hx
    · rw [if_neg (show ¬ (j1 < y4) from c34)] at h
      refine go_aload_n (pc' := 27) dX11_date_26 rfl rfl (Nat.le_of_ble_eq_true rfl) ?_
      refine go_iconst (pc' := 28) dX11_date_27 rfl (r32_c rfl) ?_
      refine go_iload (pc' := 30) dX11_date_28 rfl rfl ?_
      obtain ⟨v6, k7, h⟩ := bd h
      have k7 := l_M_isPlain (d + u + 2) n e σ5 0 j1 _ k7
      refine go_call (kc := 173) (Mc := mt173) (v := some (pvI v6)) (w' := (true, n, e, σ5)) (pc' := 33) (st' := [pvI v6]) [pvR 11 0 129, pvI 0, pvI j1] [] (Or.inl rfl) dX11_date_30 rfl rm_11_180 mtE173 rfl rfl rfl (Nat.le_of_ble_eq_true rfl) (Or.inr ⟨_, _, 129, rfl, Or.inl rfl⟩) k7 rfl ?_
      refine go_if_eq (t := 144) (pc' := 36) dX11_date_33 rfl rfl (fun c33 => ?_) (fun c33 => ?_)
      · rw [if_pos (show v6 = 0 from c33)] at h
        cases h
        exact hx
      · rw [if_neg (show ¬ (v6 = 0) from c33)] at h
        refine go_iload (pc' := 38) dX11_date_36 rfl rfl ?_
        refine go_iload (pc' := 40) dX11_date_38 rfl rfl ?_
        obtain ⟨j8, k9, h⟩ := bd h
        have k9J : Go none (Ev (d + u + 3)) mt214 85 [some (pvR 11 0 129), some (pvI x1), some (pvI x2), some (pvI x3), some (pvI x4), some (pvI x5), some (pvI x6), some (pvI x7), some (pvI j1), some (pvL y3), none, some (pvI y4), none] [pvI j8] (true, n, e, σ5) out := by
          refine go_istore (L' := [some (pvR 11 0 129), some (pvI x1), some (pvI x2), some (pvI x3), some (pvI x4), some (pvI x5), some (pvI x6), some (pvI x7), some (pvI j1), some (pvL y3), none, some (pvI y4), some (pvI j8)]) (pc' := 87) dX11_date_85 rfl (Nat.le_of_ble_eq_true rfl) rfl ?_
          refine go_iload (pc' := 89) dX11_date_87 rfl rfl ?_
          obtain ⟨j18, k19, h⟩ := bd h
          have k19J : Go none (Ev (d + u + 3)) mt214 136 [some (pvR 11 0 129), some (pvI x1), some (pvI x2), some (pvI x3), some (pvI x4), some (pvI x5), some (pvI x6), some (pvI x7), some (pvI j1), some (pvL y3), none, some (pvI y4), some (pvI j8)] [pvL j18.1] (true, n, e, j18.2) out := by
            refine go_lstore (L' := [some (pvR 11 0 129), some (pvI x1), some (pvI x2), some (pvI x3), some (pvI x4), some (pvI x5), some (pvI x6), some (pvI x7), some (pvI j1), some (pvL j18.1), none, some (pvI y4), some (pvI j8)]) (pc' := 138) dX11_date_136 rfl (Nat.le_of_ble_eq_true rfl) rfl ?_
            obtain ⟨g30, h⟩ := gd h
            refine go_iinc (L' := [some (pvR 11 0 129), some (pvI x1), some (pvI x2), some (pvI x3), some (pvI x4), some (pvI x5), some (pvI x6), some (pvI x7), some (pvI j1), some (pvL j18.1), none, some (pvI (y4 + 1)), some (pvI j8)]) (pc' := 141) dX11_date_138 rfl rfl g30 rfl ?_
            refine go_goto (t := 19) dX11_date_141 rfl ?_
            exact go_sub (ih j18.1 (y4 + 1) j18.2 _ h hx) ⟨Or.inr rfl, Or.inr rfl, Or.inr rfl, Or.inr rfl, Or.inr rfl, Or.inr rfl, Or.inr rfl, Or.inr rfl, Or.inr rfl, Or.inr rfl, Or.inr rfl, Or.inr rfl, Or.inl rfl, trivial⟩
          clear h
          have h := k19
          refine go_if_eq (t := 134) (pc' := 92) dX11_date_89 rfl rfl (fun c31 => ?_) (fun c31 => ?_)
          · rw [if_pos (show j8 = 0 from c31)] at h
            refine go_lload (pc' := 136) dX11_date_134 rfl rfl ?_
            cases h
            exact k19J
          · rw [if_neg (show ¬ (j8 = 0) from c31)] at h
            refine go_aload_n (pc' := 93) dX11_date_92 rfl rfl (Nat.le_of_ble_eq_true rfl) ?_
            refine go_iconst (pc' := 94) dX11_date_93 rfl (r32_c rfl) ?_
            refine go_lload (pc' := 96) dX11_date_94 rfl rfl ?_
            refine go_aload_n (pc' := 97) dX11_date_96 rfl rfl (Nat.le_of_ble_eq_true rfl) ?_
            refine go_iload (pc' := 99) dX11_date_97 rfl rfl ?_
            refine go_iload_n (pc' := 100) dX11_date_99 rfl rfl ?_
            refine go_iconst (pc' := 101) dX11_date_100 rfl (r32_c rfl) ?_
            obtain ⟨j20, k21, h⟩ := bd h
            have k21J : Go none (Ev (d + u + 3)) mt214 110 [some (pvR 11 0 129), some (pvI x1), some (pvI x2), some (pvI x3), some (pvI x4), some (pvI x5), some (pvI x6), some (pvI x7), some (pvI j1), some (pvL y3), none, some (pvI y4), some (pvI j8)] [pvI j20, pvI y4, pvR 11 0 129, pvL y3, pvI 3, pvR 11 0 129] (true, n, e, σ5) out := by
              refine go_iload_n (pc' := 111) dX11_date_110 rfl rfl ?_
              refine go_iconst (pc' := 112) dX11_date_111 rfl (r32_c rfl) ?_
              obtain ⟨j22, k23, h⟩ := bd h
              have k23J : Go none (Ev (d + u + 3)) mt214 121 [some (pvR 11 0 129), some (pvI x1), some (pvI x2), some (pvI x3), some (pvI x4), some (pvI x5), some (pvI x6), some (pvI x7), some (pvI j1), some (pvL y3), none, some (pvI y4), some (pvI j8)] [pvI j22, pvI j20, pvI y4, pvR 11 0 129, pvL y3, pvI 3, pvR 11 0 129] (true, n, e, σ5) out := by
                refine go_iload (pc' := 123) dX11_date_121 rfl rfl ?_
                refine go_iload (pc' := 125) dX11_date_123 rfl rfl ?_
                obtain ⟨v24, k25, h⟩ := bd h
                have k25 := (by have z := hV (d + 3) n e σ5 y4 j20 j22 x6 x7 _ k25; rwa [show d + 3 + u = d + u + 3 by omega] at z)
                refine go_call (kc := 209) (Mc := mt209) (v := some (pvL v24.1)) (w' := (true, n, e, v24.2)) (pc' := 128) (st' := [pvL v24.1, pvL y3, pvI 3, pvR 11 0 129]) [pvR 11 0 129, pvI y4, pvI j20, pvI j22, pvI x6, pvI x7] [pvL y3, pvI 3, pvR 11 0 129] (Or.inl rfl) dX11_date_125 rfl rm_11_275 mtE209 rfl rfl rfl (Nat.le_of_ble_eq_true rfl) (Or.inr ⟨_, _, 129, rfl, Or.inl rfl⟩) k25 rfl ?_
                obtain ⟨v26, k27, h⟩ := bd h
                have k27 := l_M_joined (d + u + 0) n e v24.2 3 y3 v24.1 _ k27
                refine go_call (kc := 215) (Mc := mt215) (v := some (pvL v26)) (w' := (true, n, e, v24.2)) (pc' := 131) (st' := [pvL v26]) [pvR 11 0 129, pvI 3, pvL y3, pvL v24.1] [] (Or.inl rfl) dX11_date_128 rfl rm_11_296 mtE215 rfl rfl rfl (Nat.le_of_ble_eq_true rfl) (Or.inr ⟨_, _, 129, rfl, Or.inl rfl⟩) k27 rfl ?_
                refine go_goto (t := 136) dX11_date_131 rfl ?_
                cases h
                exact k19J
              clear h
              have h := k23
              refine go_icmp_ne (t := 119) (pc' := 115) dX11_date_112 rfl rfl (fun c28 => ?_) (fun c28 => ?_)
              · rw [if_pos (show x1 ≠ 2 from c28)] at h
                refine go_iload (pc' := 121) dX11_date_119 rfl rfl ?_
                cases h
                exact k23J
              · rw [if_neg (show ¬ (x1 ≠ 2) from c28)] at h
                refine go_iload_n (pc' := 116) dX11_date_115 rfl rfl ?_
                refine go_goto (t := 121) dX11_date_116 rfl ?_
                cases h
                exact k23J
            clear h
            have h := k21
            refine go_icmp_ne (t := 108) (pc' := 104) dX11_date_101 rfl rfl (fun c29 => ?_) (fun c29 => ?_)
            · rw [if_pos (show x1 ≠ 1 from c29)] at h
              refine go_iload (pc' := 110) dX11_date_108 rfl rfl ?_
              cases h
              exact k21J
            · rw [if_neg (show ¬ (x1 ≠ 1) from c29)] at h
              refine go_iload_n (pc' := 105) dX11_date_104 rfl rfl ?_
              refine go_goto (t := 110) dX11_date_105 rfl ?_
              cases h
              exact k21J
        clear h
        have h := k9
        refine go_icmp_eq (t := 80) (pc' := 43) dX11_date_40 rfl rfl (fun c32 => ?_) (fun c32 => ?_)
        · rw [if_pos (show y4 = j1 from c32)] at h
          refine go_iconst (pc' := 81) dX11_date_80 rfl (r32_c rfl) ?_
          refine go_goto (t := 85) dX11_date_81 rfl ?_
          cases h
          exact k9J
        · rw [if_neg (show ¬ (y4 = j1) from c32)] at h
          refine go_iload (pc' := 45) dX11_date_43 rfl rfl ?_
          refine go_if_le (t := 84) (pc' := 48) dX11_date_45 rfl rfl (fun c17 => ?_) (fun c17 => ?_)
          · rw [if_pos (show j1 ≤ 0 from c17)] at h
            refine go_iconst (pc' := 85) dX11_date_84 rfl (r32_c rfl) ?_
            cases h
            exact k9J
          · rw [if_neg (show ¬ (j1 ≤ 0) from c17)] at h
            refine go_iload (pc' := 50) dX11_date_48 rfl rfl ?_
            refine go_if_le (t := 84) (pc' := 53) dX11_date_50 rfl rfl (fun c16 => ?_) (fun c16 => ?_)
            · rw [if_pos (show y4 ≤ 0 from c16)] at h
              refine go_iconst (pc' := 85) dX11_date_84 rfl (r32_c rfl) ?_
              cases h
              exact k9J
            · rw [if_neg (show ¬ (y4 ≤ 0) from c16)] at h
              refine go_aload_n (pc' := 54) dX11_date_53 rfl rfl (Nat.le_of_ble_eq_true rfl) ?_
              refine go_iconst (pc' := 55) dX11_date_54 rfl (r32_c rfl) ?_
              refine go_iload (pc' := 57) dX11_date_55 rfl rfl ?_
              obtain ⟨v10, k11, h⟩ := bd h
              have k11 := l_M_isPlain (d + u + 2) n e σ5 0 y4 _ k11
              refine go_call (kc := 173) (Mc := mt173) (v := some (pvI v10)) (w' := (true, n, e, σ5)) (pc' := 60) (st' := [pvI v10]) [pvR 11 0 129, pvI 0, pvI y4] [] (Or.inl rfl) dX11_date_57 rfl rm_11_180 mtE173 rfl rfl rfl (Nat.le_of_ble_eq_true rfl) (Or.inr ⟨_, _, 129, rfl, Or.inl rfl⟩) k11 rfl ?_
              refine go_if_eq (t := 84) (pc' := 63) dX11_date_60 rfl rfl (fun c15 => ?_) (fun c15 => ?_)
              · rw [if_pos (show v10 = 0 from c15)] at h
                refine go_iconst (pc' := 85) dX11_date_84 rfl (r32_c rfl) ?_
                cases h
                exact k9J
              · rw [if_neg (show ¬ (v10 = 0) from c15)] at h
                refine go_aload_n (pc' := 64) dX11_date_63 rfl rfl (Nat.le_of_ble_eq_true rfl) ?_
                refine go_getR (k' := 12) (L0 := 36) (P' := 132) (pc' := 67) dX11_date_64 rfl rf_11_18 rfl rfl (by omega) ?_
                refine go_iload (pc' := 69) dX11_date_67 rfl rfl ?_
                obtain ⟨g12, h⟩ := gd h
                refine go_iald (pc' := 70) dX11_date_69 rfl g12 ?_
                refine go_aload_n (pc' := 71) dX11_date_70 rfl rfl (Nat.le_of_ble_eq_true rfl) ?_
                refine go_getR (k' := 12) (L0 := 36) (P' := 132) (pc' := 74) dX11_date_71 rfl rf_11_18 rfl rfl (by omega) ?_
                refine go_iload (pc' := 76) dX11_date_74 rfl rfl ?_
                obtain ⟨g13, h⟩ := gd h
                refine go_iald (pc' := 77) dX11_date_76 rfl g13 ?_
                refine go_icmp_ne (t := 84) (pc' := 80) dX11_date_77 rfl rfl (fun c14 => ?_) (fun c14 => ?_)
                · rw [if_pos (show (σ5 132 y4) ≠ (σ5 132 j1) from c14)] at h
                  refine go_iconst (pc' := 85) dX11_date_84 rfl (r32_c rfl) ?_
                  cases h
                  exact k9J
                · rw [if_neg (show ¬ ((σ5 132 y4) ≠ (σ5 132 j1)) from c14)] at h
                  refine go_iconst (pc' := 81) dX11_date_80 rfl (r32_c rfl) ?_
                  refine go_goto (t := 85) dX11_date_81 rfl ?_
                  cases h
                  exact k9J

set_option maxRecDepth 10000 in
theorem l_M_date (V : Hp → Int → Int → Int → Int → Int → Option (Int × Hp)) (u : Nat) (hV : ∀ (d n e : Nat) (σ : Hp) (x1 : Int) (x2 : Int) (x3 : Int) (x4 : Int) (x5 : Int) (r : Int × Hp), V σ x1 x2 x3 x4 x5 = some r → Ev (d + u) 209 [pvR 11 0 129, pvI x1, pvI x2, pvI x3, pvI x4, pvI x5] (true, n, e, σ) (0, some (pvL r.1), true, n, e, r.2)) (d : Nat) (n e : Nat) (σ : Hp) (x1 : Int) (x2 : Int) (x3 : Int) (x4 : Int) (x5 : Int) (x6 : Int) (x7 : Int) (r : Int × Hp) (h : f_M_date V σ x1 x2 x3 x4 x5 x6 x7 = some r) : Ev (d + u + 4) 214 [pvR 11 0 129, pvI x1, pvI x2, pvI x3, pvI x4, pvI x5, pvI x6, pvI x7] (true, n, e, σ) (0, some (pvL r.1), true, n, e, r.2) := by
  unfold f_M_date at h
  refine Ev.of mtE214 rfl rfl rfl rfl ?_
  show Go none (Ev (d + u + 3)) mt214 0 [some (pvR 11 0 129), some (pvI x1), some (pvI x2), some (pvI x3), some (pvI x4), some (pvI x5), some (pvI x6), some (pvI x7), none, none, none, none, none] [] (true, n, e, σ) (0, some (pvL r.1), true, n, e, r.2)
  refine go_iload_n (pc' := 1) dX11_date_0 rfl rfl ?_
  obtain ⟨j1, k2, h⟩ := bd h
  have k2J : Go none (Ev (d + u + 3)) mt214 9 [some (pvR 11 0 129), some (pvI x1), some (pvI x2), some (pvI x3), some (pvI x4), some (pvI x5), some (pvI x6), some (pvI x7), none, none, none, none, none] [pvI j1] (true, n, e, σ) (0, some (pvL r.1), true, n, e, r.2) := by
    refine go_istore (L' := [some (pvR 11 0 129), some (pvI x1), some (pvI x2), some (pvI x3), some (pvI x4), some (pvI x5), some (pvI x6), some (pvI x7), some (pvI j1), none, none, none, none]) (pc' := 11) dX11_date_9 rfl (Nat.le_of_ble_eq_true rfl) rfl ?_
    refine go_ldc2 (pc' := 14) dX11_date_11 rfl (r64_c rfl) rc_11_262 ?_
    refine go_lstore (L' := [some (pvR 11 0 129), some (pvI x1), some (pvI x2), some (pvI x3), some (pvI x4), some (pvI x5), some (pvI x6), some (pvI x7), some (pvI j1), some (pvL (-9223372036854775808)), none, none, none]) (pc' := 16) dX11_date_14 rfl (Nat.le_of_ble_eq_true rfl) rfl ?_
    refine go_iconst (pc' := 17) dX11_date_16 rfl (r32_c rfl) ?_
    refine go_istore (L' := [some (pvR 11 0 129), some (pvI x1), some (pvI x2), some (pvI x3), some (pvI x4), some (pvI x5), some (pvI x6), some (pvI x7), some (pvI j1), some (pvL (-9223372036854775808)), none, some (pvI 0), none]) (pc' := 19) dX11_date_17 rfl (Nat.le_of_ble_eq_true rfl) rfl ?_
    obtain ⟨j36, k37, h⟩ := bd h
    refine l_M_date_19 V u hV d n e x1 x2 x3 x4 x5 x6 x7 j1 zFuel (-9223372036854775808) 0 σ _ k37 ?_
    refine go_lload (pc' := 146) dX11_date_144 rfl rfl ?_
    cases h
    exact go_lret dX11_date_146 rfl rfl
  clear h
  have h := k2
  refine go_if_ne (t := 8) (pc' := 4) dX11_date_1 rfl rfl (fun c38 => ?_) (fun c38 => ?_)
  · rw [if_pos (show x1 ≠ 0 from c38)] at h
    refine go_iload_n (pc' := 9) dX11_date_8 rfl rfl ?_
    cases h
    exact k2J
  · rw [if_neg (show ¬ (x1 ≠ 0) from c38)] at h
    refine go_iload_n (pc' := 5) dX11_date_4 rfl rfl ?_
    refine go_goto (t := 9) dX11_date_5 rfl ?_
    cases h
    exact k2J

