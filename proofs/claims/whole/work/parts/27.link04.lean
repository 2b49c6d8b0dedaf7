/-! ===== links: each function is what its bytecode does ===== -/
set_option maxRecDepth 10000 in
theorem l_R_toDate_45 (V : Hp → Int → Int → Option (Int × Hp)) (u : Nat) (hV : ∀ (d n e : Nat) (σ : Hp) (x1 : Int) (x2 : Int) (r : Int × Hp), V σ x1 x2 = some r → Ev (d + u) 110 [pvR 6 0 116, pvI x1, pvI x2] (true, n, e, σ) (0, some (pvL r.1), true, n, e, r.2)) (d : Nat) (n : Nat) (e : Nat) (x1 : Int) (x2 : Int) (v1 : Int) (v5 : Int) {out : Out} : ∀ (F : Nat) (y7 : Int) (y8 : Int) (σ9 : Hp) (j27 : Int × Int × Hp), f_R_toDate_45 V x1 x2 v1 v5 F y7 y8 σ9 = some j27 → Go none (Ev (d + u + 2)) mt123 111 [some (pvR 6 0 116), some (pvI x1), some (pvI x2), some (pvI v1), some (pvI v5), some (pvL j27.1), none, some (pvI j27.2.1)] [] (true, n, e, j27.2.2) out → Go none (Ev (d + u + 2)) mt123 45 [some (pvR 6 0 116), some (pvI x1), some (pvI x2), some (pvI v1), some (pvI v5), some (pvL y7), none, some (pvI y8)] [] (true, n, e, σ9) out := by
  intro F
  induction F with
  | zero =>
    intro _ _ _ _ h
    intro _
    rw [f_R_toDate_45] at h
    cases h
  | succ F ih =>
    intro y7 y8 σ9 j27 h hx
    rw [f_R_toDate_45] at h
    refine go_iload (pc' := 47) dX6_toDate_45 rfl rfl ?_
    refine go_iload_n (pc' := 48) dX6_toDate_47 rfl rfl ?_
    refine go_icmp_gt (t := 111) (pc' := 51) dX6_toDate_48 rfl rfl (fun c26 => ?_) (fun c26 => ?_)
    · rw [if_pos (show v1 < y8 from c26)] at h
      cases h
      exact hx
    · rw [if_neg (show ¬ (v1 < y8) from c26)] at h
      refine go_aload_n (pc' := 52) dX6_toDate_51 rfl rfl (Nat.le_of_ble_eq_true rfl) ?_
      refine go_getR (k' := 7) (L0 := 0) (P' := 1) (pc' := 55) dX6_toDate_52 rfl rf_6_37 rfl rfl (by omega) ?_
      refine go_getR (k' := 0) (L0 := 0) (P' := 2) (pc' := 58) dX6_toDate_55 rfl rf_6_122 rfl rfl (by omega) ?_
      refine go_iload (pc' := 60) dX6_toDate_58 rfl rfl ?_
      obtain ⟨v10, k11, h⟩ := bd h
      have k11 := l_D_isPlain (d + u + 0) n e σ9 2 y8 _ k11
      refine go_call (kc := 25) (Mc := mt25) (v := some (pvI v10)) (w' := (true, n, e, σ9)) (pc' := 63) (st' := [pvI v10]) [pvR 0 0 2, pvI y8] [] (Or.inl rfl) dX6_toDate_60 rfl rm_6_126 mtE25 rfl rfl rfl (Nat.le_of_ble_eq_true rfl) (Or.inr ⟨_, _, 2, rfl, Or.inl rfl⟩) k11 rfl ?_
      obtain ⟨j12, k13, h⟩ := bd h
      have k13J : Go none (Ev (d + u + 2)) mt123 105 [some (pvR 6 0 116), some (pvI x1), some (pvI x2), some (pvI v1), some (pvI v5), some (pvL j12.1), none, some (pvI y8)] [] (true, n, e, j12.2) out := by
        obtain ⟨g24, h⟩ := gd h
        refine go_iinc (L' := [some (pvR 6 0 116), some (pvI x1), some (pvI x2), some (pvI v1), some (pvI v5), some (pvL j12.1), none, some (pvI (y8 + 1))]) (pc' := 108) dX6_toDate_105 rfl rfl g24 rfl ?_
        refine go_goto (t := 45) dX6_toDate_108 rfl ?_
        exact ih j12.1 (y8 + 1) j12.2 _ h hx
      clear h
      have h := k13
      refine go_if_eq (t := 105) (pc' := 66) dX6_toDate_63 rfl rfl (fun c25 => ?_) (fun c25 => ?_)
      · rw [if_pos (show v10 = 0 from c25)] at h
        cases h
        exact k13J
      · rw [if_neg (show ¬ (v10 = 0) from c25)] at h
        refine go_aload_n (pc' := 67) dX6_toDate_66 rfl rfl (Nat.le_of_ble_eq_true rfl) ?_
        refine go_getR (k' := 7) (L0 := 0) (P' := 1) (pc' := 70) dX6_toDate_67 rfl rf_6_37 rfl rfl (by omega) ?_
        refine go_getR (k' := 0) (L0 := 0) (P' := 2) (pc' := 73) dX6_toDate_70 rfl rf_6_122 rfl rfl (by omega) ?_
        refine go_iload (pc' := 75) dX6_toDate_73 rfl rfl ?_
        obtain ⟨v14, k15, h⟩ := bd h
        have k15 := l_D_parentOf (d + u + 0) n e σ9 2 y8 _ k15
        refine go_call (kc := 50) (Mc := mt50) (v := some (pvI v14)) (w' := (true, n, e, σ9)) (pc' := 78) (st' := [pvI v14]) [pvR 0 0 2, pvI y8] [] (Or.inl rfl) dX6_toDate_75 rfl rm_6_139 mtE50 rfl rfl rfl (Nat.le_of_ble_eq_true rfl) (Or.inr ⟨_, _, 2, rfl, Or.inl rfl⟩) k15 rfl ?_
        refine go_iload (pc' := 80) dX6_toDate_78 rfl rfl ?_
        refine go_icmp_ne (t := 105) (pc' := 83) dX6_toDate_80 rfl rfl (fun c23 => ?_) (fun c23 => ?_)
        · rw [if_pos (show v14 ≠ v5 from c23)] at h
          cases h
          exact k13J
        · rw [if_neg (show ¬ (v14 ≠ v5) from c23)] at h
          refine go_lload (pc' := 85) dX6_toDate_83 rfl rfl ?_
          refine go_aload_n (pc' := 86) dX6_toDate_85 rfl rfl (Nat.le_of_ble_eq_true rfl) ?_
          refine go_iload_n (pc' := 87) dX6_toDate_86 rfl rfl ?_
          refine go_iconst (pc' := 88) dX6_toDate_87 rfl (r32_c rfl) ?_
          refine go_iload (pc' := 90) dX6_toDate_88 rfl rfl ?_
          obtain ⟨v16, k17, h⟩ := bd h
          have k17 := l_C_withMember (d + u + 0) n e σ9 x1 0 y8 _ k17
          refine go_call (kc := 122) (Mc := mt122) (v := some (pvI v16)) (w' := (true, n, e, σ9)) (pc' := 93) (st' := [pvI v16, pvR 6 0 116, pvL y7]) [pvI x1, pvI 0, pvI y8] [pvR 6 0 116, pvL y7] (Or.inr (Or.inr (Or.inr (Or.inl rfl)))) dX6_toDate_90 rfl rm_6_105 mtE122 rfl rfl rfl (Nat.le_of_ble_eq_true rfl) (Or.inl (by decide)) k17 rfl ?_
          refine go_iload_n (pc' := 94) dX6_toDate_93 rfl rfl ?_
          refine go_iconst (pc' := 95) dX6_toDate_94 rfl (r32_c rfl) ?_
          obtain ⟨g18, h⟩ := gd h
          refine go_iadd (pc' := 96) dX6_toDate_95 rfl g18 ?_
          obtain ⟨v19, k20, h⟩ := bd h
          have k20 := (by have z := hV (d + 2) n e σ9 v16 (x2 + 1) _ k20; rwa [show d + 2 + u = d + u + 2 by omega] at z)
          refine go_call (kc := 110) (Mc := mt110) (v := some (pvL v19.1)) (w' := (true, n, e, v19.2)) (pc' := 99) (st' := [pvL v19.1, pvL y7]) [pvR 6 0 116, pvI v16, pvI (x2 + 1)] [pvL y7] (Or.inl rfl) dX6_toDate_96 rfl rm_6_62 mtE110 rfl rfl rfl (Nat.le_of_ble_eq_true rfl) (Or.inr ⟨_, _, 116, rfl, Or.inl rfl⟩) k20 rfl ?_
          refine go_iconst (pc' := 100) dX6_toDate_99 rfl (r32_c rfl) ?_
          obtain ⟨v21, k22, h⟩ := bd h
          have k22 := l_R_plus (d + u + 0) n e v19.2 y7 v19.1 1 _ k22
          refine go_call (kc := 124) (Mc := mt124) (v := some (pvL v21)) (w' := (true, n, e, v19.2)) (pc' := 103) (st' := [pvL v21]) [pvL y7, pvL v19.1, pvI 1] [] (Or.inr (Or.inl rfl)) dX6_toDate_100 rfl rm_6_142 mtE124 rfl rfl rfl (Nat.le_of_ble_eq_true rfl) (Or.inl (by decide)) k22 rfl ?_
          refine go_lstore (L' := [some (pvR 6 0 116), some (pvI x1), some (pvI x2), some (pvI v1), some (pvI v5), some (pvL v21), none, some (pvI y8)]) (pc' := 105) dX6_toDate_103 rfl (Nat.le_of_ble_eq_true rfl) rfl ?_
          cases h
          exact k13J

set_option maxRecDepth 10000 in
theorem l_R_toDate (V : Hp → Int → Int → Option (Int × Hp)) (u : Nat) (hV : ∀ (d n e : Nat) (σ : Hp) (x1 : Int) (x2 : Int) (r : Int × Hp), V σ x1 x2 = some r → Ev (d + u) 110 [pvR 6 0 116, pvI x1, pvI x2] (true, n, e, σ) (0, some (pvL r.1), true, n, e, r.2)) (d : Nat) (n e : Nat) (σ : Hp) (x1 : Int) (x2 : Int) (r : Int × Hp) (h : f_R_toDate V σ x1 x2 = some r) : Ev (d + u + 3) 123 [pvR 6 0 116, pvI x1, pvI x2] (true, n, e, σ) (0, some (pvL r.1), true, n, e, r.2) := by
  unfold f_R_toDate at h
  refine Ev.of mtE123 rfl rfl rfl rfl ?_
  show Go none (Ev (d + u + 2)) mt123 0 [some (pvR 6 0 116), some (pvI x1), some (pvI x2), none, none, none, none, none] [] (true, n, e, σ) (0, some (pvL r.1), true, n, e, r.2)
  refine go_iload_n (pc' := 1) dX6_toDate_0 rfl rfl ?_
  refine go_iconst (pc' := 2) dX6_toDate_1 rfl (r32_c rfl) ?_
  obtain ⟨v1, k2, h⟩ := bd h
  have k2 := l_C_memberOf (d + u + 1) n e σ x1 0 _ k2
  refine go_call (kc := 79) (Mc := mt79) (v := some (pvI v1)) (w' := (true, n, e, σ)) (pc' := 5) (st' := [pvI v1]) [pvI x1, pvI 0] [] (Or.inr (Or.inr (Or.inr (Or.inl rfl)))) dX6_toDate_2 rfl rm_6_84 mtE79 rfl rfl rfl (Nat.le_of_ble_eq_true rfl) (Or.inl (by decide)) k2 rfl ?_
  refine go_istore_n (L' := [some (pvR 6 0 116), some (pvI x1), some (pvI x2), some (pvI v1), none, none, none, none]) (pc' := 6) dX6_toDate_5 rfl (Nat.le_of_ble_eq_true rfl) rfl ?_
  refine go_aload_n (pc' := 7) dX6_toDate_6 rfl rfl (Nat.le_of_ble_eq_true rfl) ?_
  refine go_getR (k' := 7) (L0 := 0) (P' := 1) (pc' := 10) dX6_toDate_7 rfl rf_6_37 rfl rfl (by omega) ?_
  refine go_getR (k' := 0) (L0 := 0) (P' := 2) (pc' := 13) dX6_toDate_10 rfl rf_6_122 rfl rfl (by omega) ?_
  refine go_iload_n (pc' := 14) dX6_toDate_13 rfl rfl ?_
  obtain ⟨v3, k4, h⟩ := bd h
  have k4 := l_D_isPlain (d + u + 0) n e σ 2 v1 _ k4
  refine go_call (kc := 25) (Mc := mt25) (v := some (pvI v3)) (w' := (true, n, e, σ)) (pc' := 17) (st' := [pvI v3]) [pvR 0 0 2, pvI v1] [] (Or.inl rfl) dX6_toDate_14 rfl rm_6_126 mtE25 rfl rfl rfl (Nat.le_of_ble_eq_true rfl) (Or.inr ⟨_, _, 2, rfl, Or.inl rfl⟩) k4 rfl ?_
  refine go_if_ne (t := 24) (pc' := 20) dX6_toDate_17 rfl rfl (fun c30 => ?_) (fun c30 => ?_)
  · rw [if_pos (show v3 ≠ 0 from c30)] at h
    refine go_aload_n (pc' := 25) dX6_toDate_24 rfl rfl (Nat.le_of_ble_eq_true rfl) ?_
    refine go_getR (k' := 7) (L0 := 0) (P' := 1) (pc' := 28) dX6_toDate_25 rfl rf_6_37 rfl rfl (by omega) ?_
    refine go_getR (k' := 0) (L0 := 0) (P' := 2) (pc' := 31) dX6_toDate_28 rfl rf_6_122 rfl rfl (by omega) ?_
    refine go_iload_n (pc' := 32) dX6_toDate_31 rfl rfl ?_
    obtain ⟨v5, k6, h⟩ := bd h
    have k6 := l_D_parentOf (d + u + 0) n e σ 2 v1 _ k6
    refine go_call (kc := 50) (Mc := mt50) (v := some (pvI v5)) (w' := (true, n, e, σ)) (pc' := 35) (st' := [pvI v5]) [pvR 0 0 2, pvI v1] [] (Or.inl rfl) dX6_toDate_32 rfl rm_6_139 mtE50 rfl rfl rfl (Nat.le_of_ble_eq_true rfl) (Or.inr ⟨_, _, 2, rfl, Or.inl rfl⟩) k6 rfl ?_
    refine go_istore (L' := [some (pvR 6 0 116), some (pvI x1), some (pvI x2), some (pvI v1), some (pvI v5), none, none, none]) (pc' := 37) dX6_toDate_35 rfl (Nat.le_of_ble_eq_true rfl) rfl ?_
    refine go_ldc2 (pc' := 40) dX6_toDate_37 rfl (r64_c rfl) rc_6_66 ?_
    refine go_lstore (L' := [some (pvR 6 0 116), some (pvI x1), some (pvI x2), some (pvI v1), some (pvI v5), some (pvL (-9223372036854775808)), none, none]) (pc' := 42) dX6_toDate_40 rfl (Nat.le_of_ble_eq_true rfl) rfl ?_
    refine go_iconst (pc' := 43) dX6_toDate_42 rfl (r32_c rfl) ?_
    refine go_istore (L' := [some (pvR 6 0 116), some (pvI x1), some (pvI x2), some (pvI v1), some (pvI v5), some (pvL (-9223372036854775808)), none, some (pvI 0)]) (pc' := 45) dX6_toDate_43 rfl (Nat.le_of_ble_eq_true rfl) rfl ?_
    obtain ⟨j28, k29, h⟩ := bd h
    refine l_R_toDate_45 V u hV d n e x1 x2 v1 v5 zFuel (-9223372036854775808) 0 σ _ k29 ?_
    refine go_lload (pc' := 113) dX6_toDate_111 rfl rfl ?_
    cases h
    exact go_lret dX6_toDate_113 rfl rfl
  · rw [if_neg (show ¬ (v3 ≠ 0) from c30)] at h
    refine go_ldc2 (pc' := 23) dX6_toDate_20 rfl (r64_c rfl) rc_6_66 ?_
    cases h
    exact go_lret dX6_toDate_23 rfl rfl

set_option maxRecDepth 10000 in
theorem l_TO_ahead_12 (d : Nat) (n : Nat) (e : Nat) (σ : Hp) (x1 : Int) (x2 : Int) (p3 : Nat) : ∀ (F : Nat) (y4 : Int) (y5 : Int) (r : Int), f_TO_ahead_12 σ x1 p3 F y4 y5 = some r → Go none (Ev (d + 2)) mt126 12 [some (pvR 9 0 92), some (pvI x1), some (pvI x2), some (pvR 0 0 p3), some (pvI y4), some (pvI y5)] [] (true, n, e, σ) (0, some (pvI r), true, n, e, σ) := by
  intro F
  induction F with
  | zero =>
    intro _ _ _ h
    rw [f_TO_ahead_12] at h
    cases h
  | succ F ih =>
    intro y4 y5 r h
    rw [f_TO_ahead_12] at h
    refine go_iload (pc' := 14) dX9_ahead_12 rfl rfl ?_
    refine go_if_lt (t := 67) (pc' := 17) dX9_ahead_14 rfl rfl (fun c18 => ?_) (fun c18 => ?_)
    · rw [if_pos (show y5 < 0 from c18)] at h
      refine go_iconst (pc' := 68) dX9_ahead_67 rfl (r32_c rfl) ?_
      cases h
      exact go_iret dX9_ahead_68 rfl rfl
    · rw [if_neg (show ¬ (y5 < 0) from c18)] at h
      refine go_iload (pc' := 19) dX9_ahead_17 rfl rfl ?_
      refine go_aload_n (pc' := 20) dX9_ahead_19 rfl rfl (Nat.le_of_ble_eq_true rfl) ?_
      refine go_getI (pc' := 23) dX9_ahead_20 rfl rf_9_9 rfl ?_
      refine go_icmp_ge (t := 67) (pc' := 26) dX9_ahead_23 rfl rfl (fun c17 => ?_) (fun c17 => ?_)
      · rw [if_pos (show (σ 92 0) ≤ y5 from c17)] at h
        refine go_iconst (pc' := 68) dX9_ahead_67 rfl (r32_c rfl) ?_
        cases h
        exact go_iret dX9_ahead_68 rfl rfl
      · rw [if_neg (show ¬ ((σ 92 0) ≤ y5) from c17)] at h
        refine go_aload_n (pc' := 27) dX9_ahead_26 rfl rfl (Nat.le_of_ble_eq_true rfl) ?_
        refine go_aload_n (pc' := 28) dX9_ahead_27 rfl rfl (Nat.le_of_ble_eq_true rfl) ?_
        refine go_getR (k' := 12) (L0 := 12) (P' := 93) (pc' := 31) dX9_ahead_28 rfl rf_9_15 rfl rfl (by omega) ?_
        refine go_iload (pc' := 33) dX9_ahead_31 rfl rfl ?_
        obtain ⟨g6, h⟩ := gd h
        refine go_iald (pc' := 34) dX9_ahead_33 rfl g6 ?_
        obtain ⟨v7, k8, h⟩ := bd h
        have k8 := l_D_depthOf (d + 0) n e σ p3 (σ 93 y5) _ k8
        refine go_call (kc := 31) (Mc := mt31) (v := some (pvI v7)) (w' := (true, n, e, σ)) (pc' := 37) (st' := [pvI v7]) [pvR 0 0 p3, pvI (σ 93 y5)] [] (Or.inl rfl) dX9_ahead_34 rfl rm_9_32 mtE31 rfl rfl rfl (Nat.le_of_ble_eq_true rfl) (Or.inr ⟨_, _, p3, rfl, Or.inl rfl⟩) k8 rfl ?_
        refine go_aload_n (pc' := 38) dX9_ahead_37 rfl rfl (Nat.le_of_ble_eq_true rfl) ?_
        refine go_iload_n (pc' := 39) dX9_ahead_38 rfl rfl ?_
        obtain ⟨v9, k10, h⟩ := bd h
        have k10 := l_D_depthOf (d + 0) n e σ p3 x1 _ k10
        refine go_call (kc := 31) (Mc := mt31) (v := some (pvI v9)) (w' := (true, n, e, σ)) (pc' := 42) (st' := [pvI v9, pvI v7]) [pvR 0 0 p3, pvI x1] [pvI v7] (Or.inl rfl) dX9_ahead_39 rfl rm_9_32 mtE31 rfl rfl rfl (Nat.le_of_ble_eq_true rfl) (Or.inr ⟨_, _, p3, rfl, Or.inl rfl⟩) k10 rfl ?_
        refine go_icmp_ne (t := 61) (pc' := 45) dX9_ahead_42 rfl rfl (fun c16 => ?_) (fun c16 => ?_)
        · rw [if_pos (show v7 ≠ v9 from c16)] at h
          obtain ⟨g11, h⟩ := gd h
          refine go_iinc (L' := [some (pvR 9 0 92), some (pvI x1), some (pvI x2), some (pvR 0 0 p3), some (pvI y4), some (pvI (y5 + (-1)))]) (pc' := 64) dX9_ahead_61 rfl rfl g11 rfl ?_
          refine go_goto (t := 12) dX9_ahead_64 rfl ?_
          exact ih y4 (y5 + (-1)) _ h
        · rw [if_neg (show ¬ (v7 ≠ v9) from c16)] at h
          obtain ⟨g12, h⟩ := gd h
          refine go_iinc (L' := [some (pvR 9 0 92), some (pvI x1), some (pvI x2), some (pvR 0 0 p3), some (pvI (y4 + (-1))), some (pvI y5)]) (pc' := 48) dX9_ahead_45 rfl rfl g12 rfl ?_
          refine go_iload (pc' := 50) dX9_ahead_48 rfl rfl ?_
          refine go_if_ne (t := 61) (pc' := 53) dX9_ahead_50 rfl rfl (fun c15 => ?_) (fun c15 => ?_)
          · rw [if_pos (show (y4 + (-1)) ≠ 0 from c15)] at h
            obtain ⟨g13, h⟩ := gd h
            refine go_iinc (L' := [some (pvR 9 0 92), some (pvI x1), some (pvI x2), some (pvR 0 0 p3), some (pvI (y4 + (-1))), some (pvI (y5 + (-1)))]) (pc' := 64) dX9_ahead_61 rfl rfl g13 rfl ?_
            refine go_goto (t := 12) dX9_ahead_64 rfl ?_
            exact ih (y4 + (-1)) (y5 + (-1)) _ h
          · rw [if_neg (show ¬ ((y4 + (-1)) ≠ 0) from c15)] at h
            refine go_aload_n (pc' := 54) dX9_ahead_53 rfl rfl (Nat.le_of_ble_eq_true rfl) ?_
            refine go_getR (k' := 12) (L0 := 12) (P' := 93) (pc' := 57) dX9_ahead_54 rfl rf_9_15 rfl rfl (by omega) ?_
            refine go_iload (pc' := 59) dX9_ahead_57 rfl rfl ?_
            obtain ⟨g14, h⟩ := gd h
            refine go_iald (pc' := 60) dX9_ahead_59 rfl g14 ?_
            cases h
            exact go_iret dX9_ahead_60 rfl rfl

set_option maxRecDepth 10000 in
theorem l_TO_ahead (d : Nat) (n e : Nat) (σ : Hp) (x1 : Int) (x2 : Int) (p3 : Nat) (r : Int) (h : f_TO_ahead σ x1 x2 p3 = some r) : Ev (d + 3) 126 [pvR 9 0 92, pvI x1, pvI x2, pvR 0 0 p3] (true, n, e, σ) (0, some (pvI r), true, n, e, σ) := by
  unfold f_TO_ahead at h
  refine Ev.of mtE126 rfl rfl rfl rfl ?_
  show Go none (Ev (d + 2)) mt126 0 [some (pvR 9 0 92), some (pvI x1), some (pvI x2), some (pvR 0 0 p3), none, none] [] (true, n, e, σ) (0, some (pvI r), true, n, e, σ)
  refine go_iload_n (pc' := 1) dX9_ahead_0 rfl rfl ?_
  refine go_istore (L' := [some (pvR 9 0 92), some (pvI x1), some (pvI x2), some (pvR 0 0 p3), some (pvI x2), none]) (pc' := 3) dX9_ahead_1 rfl (Nat.le_of_ble_eq_true rfl) rfl ?_
  refine go_aload_n (pc' := 4) dX9_ahead_3 rfl rfl (Nat.le_of_ble_eq_true rfl) ?_
  refine go_iload_n (pc' := 5) dX9_ahead_4 rfl rfl ?_
  obtain ⟨v1, k2, h⟩ := bd h
  have k2 := l_TO_placeOf (d + 1) n e σ x1 _ k2
  refine go_call (kc := 30) (Mc := mt30) (v := some (pvI v1)) (w' := (true, n, e, σ)) (pc' := 8) (st' := [pvI v1]) [pvR 9 0 92, pvI x1] [] (Or.inl rfl) dX9_ahead_5 rfl rm_9_28 mtE30 rfl rfl rfl (Nat.le_of_ble_eq_true rfl) (Or.inr ⟨_, _, 92, rfl, Or.inl rfl⟩) k2 rfl ?_
  refine go_iconst (pc' := 9) dX9_ahead_8 rfl (r32_c rfl) ?_
  obtain ⟨g3, h⟩ := gd h
  refine go_isub (pc' := 10) dX9_ahead_9 rfl g3 ?_
  refine go_istore (L' := [some (pvR 9 0 92), some (pvI x1), some (pvI x2), some (pvR 0 0 p3), some (pvI x2), some (pvI (v1 - 1))]) (pc' := 12) dX9_ahead_10 rfl (Nat.le_of_ble_eq_true rfl) rfl ?_
  exact l_TO_ahead_12 d n e σ x1 x2 p3 zFuel x2 (v1 - 1) _ h

set_option maxRecDepth 10000 in
theorem l_R_back (V : Hp → Int → Int → Option (Int × Hp)) (u : Nat) (hV : ∀ (d n e : Nat) (σ : Hp) (x1 : Int) (x2 : Int) (r : Int × Hp), V σ x1 x2 = some r → Ev (d + u) 110 [pvR 6 0 116, pvI x1, pvI x2] (true, n, e, σ) (0, some (pvL r.1), true, n, e, r.2)) (d : Nat) (n e : Nat) (σ : Hp) (x1 : Int) (x2 : Int) (x3 : Int) (r : Int × Hp) (h : f_R_back V σ x1 x2 x3 = some r) : Ev (d + u + 4) 125 [pvR 6 0 116, pvI x1, pvI x2, pvI x3] (true, n, e, σ) (0, some (pvL r.1), true, n, e, r.2) := by
  unfold f_R_back at h
  refine Ev.of mtE125 rfl rfl rfl rfl ?_
  show Go none (Ev (d + u + 3)) mt125 0 [some (pvR 6 0 116), some (pvI x1), some (pvI x2), some (pvI x3), none, none] [] (true, n, e, σ) (0, some (pvL r.1), true, n, e, r.2)
  refine go_iload_n (pc' := 1) dX6_back_0 rfl rfl ?_
  refine go_if_ne (t := 13) (pc' := 4) dX6_back_1 rfl rfl (fun c21 => ?_) (fun c21 => ?_)
  · rw [if_pos (show x2 ≠ 0 from c21)] at h
    refine go_iload_n (pc' := 14) dX6_back_13 rfl rfl ?_
    refine go_iconst (pc' := 15) dX6_back_14 rfl (r32_c rfl) ?_
    obtain ⟨v1, k2, h⟩ := bd h
    have k2 := l_C_memberOf (d + u + 2) n e σ x1 0 _ k2
    refine go_call (kc := 79) (Mc := mt79) (v := some (pvI v1)) (w' := (true, n, e, σ)) (pc' := 18) (st' := [pvI v1]) [pvI x1, pvI 0] [] (Or.inr (Or.inr (Or.inr (Or.inl rfl)))) dX6_back_15 rfl rm_6_84 mtE79 rfl rfl rfl (Nat.le_of_ble_eq_true rfl) (Or.inl (by decide)) k2 rfl ?_
    refine go_istore (L' := [some (pvR 6 0 116), some (pvI x1), some (pvI x2), some (pvI x3), some (pvI v1), none]) (pc' := 20) dX6_back_18 rfl (Nat.le_of_ble_eq_true rfl) rfl ?_
    refine go_aload_n (pc' := 21) dX6_back_20 rfl rfl (Nat.le_of_ble_eq_true rfl) ?_
    refine go_getR (k' := 7) (L0 := 0) (P' := 1) (pc' := 24) dX6_back_21 rfl rf_6_37 rfl rfl (by omega) ?_
    refine go_getR (k' := 0) (L0 := 0) (P' := 2) (pc' := 27) dX6_back_24 rfl rf_6_122 rfl rfl (by omega) ?_
    refine go_iload (pc' := 29) dX6_back_27 rfl rfl ?_
    obtain ⟨v3, k4, h⟩ := bd h
    have k4 := l_D_isPlain (d + u + 1) n e σ 2 v1 _ k4
    refine go_call (kc := 25) (Mc := mt25) (v := some (pvI v3)) (w' := (true, n, e, σ)) (pc' := 32) (st' := [pvI v3]) [pvR 0 0 2, pvI v1] [] (Or.inl rfl) dX6_back_29 rfl rm_6_126 mtE25 rfl rfl rfl (Nat.le_of_ble_eq_true rfl) (Or.inr ⟨_, _, 2, rfl, Or.inl rfl⟩) k4 rfl ?_
    obtain ⟨j5, k6, h⟩ := bd h
    have k6J : Go none (Ev (d + u + 3)) mt125 59 [some (pvR 6 0 116), some (pvI x1), some (pvI x2), some (pvI x3), some (pvI v1), none] [pvI j5] (true, n, e, σ) (0, some (pvL r.1), true, n, e, r.2) := by
      refine go_istore (L' := [some (pvR 6 0 116), some (pvI x1), some (pvI x2), some (pvI x3), some (pvI v1), some (pvI j5)]) (pc' := 61) dX6_back_59 rfl (Nat.le_of_ble_eq_true rfl) rfl ?_
      refine go_iload (pc' := 63) dX6_back_61 rfl rfl ?_
      refine go_iconst (pc' := 64) dX6_back_63 rfl (r32_c rfl) ?_
      obtain ⟨j9, k10, h⟩ := bd h
      have k10J : Go none (Ev (d + u + 3)) mt125 87 [some (pvR 6 0 116), some (pvI x1), some (pvI x2), some (pvI x3), some (pvI v1), some (pvI j5)] [pvL j9.1] (true, n, e, j9.2) (0, some (pvL r.1), true, n, e, r.2) := by
        cases h
        exact go_lret dX6_back_87 rfl rfl
      clear h
      have h := k10
      refine go_icmp_ne (t := 73) (pc' := 67) dX6_back_64 rfl rfl (fun c16 => ?_) (fun c16 => ?_)
      · rw [if_pos (show j5 ≠ (-1) from c16)] at h
        refine go_aload_n (pc' := 74) dX6_back_73 rfl rfl (Nat.le_of_ble_eq_true rfl) ?_
        refine go_iload_n (pc' := 75) dX6_back_74 rfl rfl ?_
        refine go_iconst (pc' := 76) dX6_back_75 rfl (r32_c rfl) ?_
        refine go_iload (pc' := 78) dX6_back_76 rfl rfl ?_
        obtain ⟨v11, k12, h⟩ := bd h
        have k12 := l_C_withMember (d + u + 1) n e σ x1 0 j5 _ k12
        refine go_call (kc := 122) (Mc := mt122) (v := some (pvI v11)) (w' := (true, n, e, σ)) (pc' := 81) (st' := [pvI v11, pvR 6 0 116]) [pvI x1, pvI 0, pvI j5] [pvR 6 0 116] (Or.inr (Or.inr (Or.inr (Or.inl rfl)))) dX6_back_78 rfl rm_6_105 mtE122 rfl rfl rfl (Nat.le_of_ble_eq_true rfl) (Or.inl (by decide)) k12 rfl ?_
        refine go_iload_n (pc' := 82) dX6_back_81 rfl rfl ?_
        refine go_iconst (pc' := 83) dX6_back_82 rfl (r32_c rfl) ?_
        obtain ⟨g13, h⟩ := gd h
        refine go_iadd (pc' := 84) dX6_back_83 rfl g13 ?_
        obtain ⟨v14, k15, h⟩ := bd h
        have k15 := (by have z := hV (d + 3) n e σ v11 (x3 + 1) _ k15; rwa [show d + 3 + u = d + u + 3 by omega] at z)
        refine go_call (kc := 110) (Mc := mt110) (v := some (pvL v14.1)) (w' := (true, n, e, v14.2)) (pc' := 87) (st' := [pvL v14.1]) [pvR 6 0 116, pvI v11, pvI (x3 + 1)] [] (Or.inl rfl) dX6_back_84 rfl rm_6_62 mtE110 rfl rfl rfl (Nat.le_of_ble_eq_true rfl) (Or.inr ⟨_, _, 116, rfl, Or.inl rfl⟩) k15 rfl ?_
        cases h
        exact k10J
      · rw [if_neg (show ¬ (j5 ≠ (-1)) from c16)] at h
        refine go_ldc2 (pc' := 70) dX6_back_67 rfl (r64_c rfl) rc_6_66 ?_
        refine go_goto (t := 87) dX6_back_70 rfl ?_
        cases h
        exact k10J
    clear h
    have h := k6
    refine go_if_eq (t := 58) (pc' := 35) dX6_back_32 rfl rfl (fun c17 => ?_) (fun c17 => ?_)
    · rw [if_pos (show v3 = 0 from c17)] at h
      refine go_iconst (pc' := 59) dX6_back_58 rfl (r32_c rfl) ?_
      cases h
      exact k6J
    · rw [if_neg (show ¬ (v3 = 0) from c17)] at h
      refine go_aload_n (pc' := 36) dX6_back_35 rfl rfl (Nat.le_of_ble_eq_true rfl) ?_
      refine go_getR (k' := 7) (L0 := 0) (P' := 1) (pc' := 39) dX6_back_36 rfl rf_6_37 rfl rfl (by omega) ?_
      refine go_getR (k' := 9) (L0 := 0) (P' := 92) (pc' := 42) dX6_back_39 rfl rf_6_129 rfl rfl (by omega) ?_
      refine go_iload (pc' := 44) dX6_back_42 rfl rfl ?_
      refine go_iload_n (pc' := 45) dX6_back_44 rfl rfl ?_
      refine go_aload_n (pc' := 46) dX6_back_45 rfl rfl (Nat.le_of_ble_eq_true rfl) ?_
      refine go_getR (k' := 7) (L0 := 0) (P' := 1) (pc' := 49) dX6_back_46 rfl rf_6_37 rfl rfl (by omega) ?_
      refine go_getR (k' := 0) (L0 := 0) (P' := 2) (pc' := 52) dX6_back_49 rfl rf_6_122 rfl rfl (by omega) ?_
      obtain ⟨v7, k8, h⟩ := bd h
      have k8 := l_TO_ahead (d + u + 0) n e σ v1 x2 2 _ k8
      refine go_call (kc := 126) (Mc := mt126) (v := some (pvI v7)) (w' := (true, n, e, σ)) (pc' := 55) (st' := [pvI v7]) [pvR 9 0 92, pvI v1, pvI x2, pvR 0 0 2] [] (Or.inl rfl) dX6_back_52 rfl rm_6_133 mtE126 rfl rfl rfl (Nat.le_of_ble_eq_true rfl) (Or.inr ⟨_, _, 92, rfl, Or.inl rfl⟩) k8 rfl ?_
      refine go_goto (t := 59) dX6_back_55 rfl ?_
      cases h
      exact k6J
  · rw [if_neg (show ¬ (x2 ≠ 0) from c21)] at h
    refine go_aload_n (pc' := 5) dX6_back_4 rfl rfl (Nat.le_of_ble_eq_true rfl) ?_
    refine go_iload_n (pc' := 6) dX6_back_5 rfl rfl ?_
    refine go_iload_n (pc' := 7) dX6_back_6 rfl rfl ?_
    refine go_iconst (pc' := 8) dX6_back_7 rfl (r32_c rfl) ?_
    obtain ⟨g18, h⟩ := gd h
    refine go_iadd (pc' := 9) dX6_back_8 rfl g18 ?_
    obtain ⟨v19, k20, h⟩ := bd h
    have k20 := (by have z := hV (d + 3) n e σ x1 (x3 + 1) _ k20; rwa [show d + 3 + u = d + u + 3 by omega] at z)
    refine go_call (kc := 110) (Mc := mt110) (v := some (pvL v19.1)) (w' := (true, n, e, v19.2)) (pc' := 12) (st' := [pvL v19.1]) [pvR 6 0 116, pvI x1, pvI (x3 + 1)] [] (Or.inl rfl) dX6_back_9 rfl rm_6_62 mtE110 rfl rfl rfl (Nat.le_of_ble_eq_true rfl) (Or.inr ⟨_, _, 116, rfl, Or.inl rfl⟩) k20 rfl ?_
    cases h
    exact go_lret dX6_back_12 rfl rfl

set_option maxRecDepth 10000 in
theorem l_R_product (d : Nat) (n e : Nat) (σ : Hp) (x1 : Int) (x2 : Int) (r : Int) (h : f_R_product σ x1 x2 = some r) : Ev (d + 1) 128 [pvL x1, pvL x2] (true, n, e, σ) (0, some (pvL r), true, n, e, σ) := by
  unfold f_R_product at h
  refine Ev.of mtE128 rfl rfl rfl rfl ?_
  show Go none (Ev (d + 0)) mt128 0 [some (pvL x1), none, some (pvL x2), none] [] (true, n, e, σ) (0, some (pvL r), true, n, e, σ)
  refine go_lload_n (pc' := 1) dX6_product_0 rfl rfl ?_
  refine go_ldc2 (pc' := 4) dX6_product_1 rfl (r64_c rfl) rc_6_66 ?_
  refine go_lcmp (pc' := 5) dX6_product_4 rfl ?_
  refine go_if_eq (t := 16) (pc' := 8) dX6_product_5 rfl rfl (fun c18 => ?_) (fun c18 => ?_)
  · rw [if_pos (show (lcm x1 (-9223372036854775808)) = 0 from c18)] at h
    refine go_ldc2 (pc' := 19) dX6_product_16 rfl (r64_c rfl) rc_6_66 ?_
    cases h
    exact go_lret dX6_product_19 rfl rfl
  · rw [if_neg (show ¬ ((lcm x1 (-9223372036854775808)) = 0) from c18)] at h
    refine go_lload_n (pc' := 9) dX6_product_8 rfl rfl ?_
    refine go_ldc2 (pc' := 12) dX6_product_9 rfl (r64_c rfl) rc_6_66 ?_
    refine go_lcmp (pc' := 13) dX6_product_12 rfl ?_
    refine go_if_ne (t := 20) (pc' := 16) dX6_product_13 rfl rfl (fun c17 => ?_) (fun c17 => ?_)
    · rw [if_pos (show (lcm x2 (-9223372036854775808)) ≠ 0 from c17)] at h
      refine go_lload_n (pc' := 21) dX6_product_20 rfl rfl ?_
      refine go_lconst (z := 0) (pc' := 22) dX6_product_21 rfl rfl ?_
      refine go_lcmp (pc' := 23) dX6_product_22 rfl ?_
      refine go_if_eq (t := 32) (pc' := 26) dX6_product_23 rfl rfl (fun c16 => ?_) (fun c16 => ?_)
      · rw [if_pos (show (lcm x1 0) = 0 from c16)] at h
        refine go_lconst (z := 0) (pc' := 33) dX6_product_32 rfl rfl ?_
        cases h
        exact go_lret dX6_product_33 rfl rfl
      · rw [if_neg (show ¬ ((lcm x1 0) = 0) from c16)] at h
        refine go_lload_n (pc' := 27) dX6_product_26 rfl rfl ?_
        refine go_lconst (z := 0) (pc' := 28) dX6_product_27 rfl rfl ?_
        refine go_lcmp (pc' := 29) dX6_product_28 rfl ?_
        refine go_if_ne (t := 34) (pc' := 32) dX6_product_29 rfl rfl (fun c15 => ?_) (fun c15 => ?_)
        · rw [if_pos (show (lcm x2 0) ≠ 0 from c15)] at h
          refine go_lload_n (pc' := 35) dX6_product_34 rfl rfl ?_
          obtain ⟨g1, h⟩ := gd h
          refine go_labs (pc' := 38) dX6_product_35 rfl rm_6_157 (Nat.le_of_ble_eq_true rfl) g1 ?_
          refine go_ldc2 (pc' := 41) dX6_product_38 rfl (r64_c rfl) rc_6_162 ?_
          refine go_lload_n (pc' := 42) dX6_product_41 rfl rfl ?_
          obtain ⟨g2, h⟩ := gd h
          refine go_labs (pc' := 45) dX6_product_42 rfl rm_6_157 (Nat.le_of_ble_eq_true rfl) g2 ?_
          obtain ⟨g3, h⟩ := gd h
          refine go_ldiv (pc' := 46) dX6_product_45 rfl g3 ?_
          refine go_lcmp (pc' := 47) dX6_product_46 rfl ?_
          refine go_if_le (t := 85) (pc' := 50) dX6_product_47 rfl rfl (fun c14 => ?_) (fun c14 => ?_)
          · rw [if_pos (show (lcm (max x1 (-x1)) (Int.tdiv 1000000000000 (max x2 (-x2)))) ≤ 0 from c14)] at h
            refine go_lload_n (pc' := 86) dX6_product_85 rfl rfl ?_
            refine go_lload_n (pc' := 87) dX6_product_86 rfl rfl ?_
            obtain ⟨g4, h⟩ := gd h
            refine go_lmul (pc' := 88) dX6_product_87 rfl g4 ?_
            cases h
            exact go_lret dX6_product_88 rfl rfl
          · rw [if_neg (show ¬ ((lcm (max x1 (-x1)) (Int.tdiv 1000000000000 (max x2 (-x2)))) ≤ 0) from c14)] at h
            refine go_lload_n (pc' := 51) dX6_product_50 rfl rfl ?_
            refine go_lconst (z := 0) (pc' := 52) dX6_product_51 rfl rfl ?_
            refine go_lcmp (pc' := 53) dX6_product_52 rfl ?_
            obtain ⟨j5, k6, h⟩ := bd h
            have k6J : Go none (Ev (d + 0)) mt128 61 [some (pvL x1), none, some (pvL x2), none] [pvI j5] (true, n, e, σ) (0, some (pvL r), true, n, e, σ) := by
              refine go_lload_n (pc' := 62) dX6_product_61 rfl rfl ?_
              refine go_lconst (z := 0) (pc' := 63) dX6_product_62 rfl rfl ?_
              refine go_lcmp (pc' := 64) dX6_product_63 rfl ?_
              obtain ⟨j7, k8, h⟩ := bd h
              have k8J : Go none (Ev (d + 0)) mt128 72 [some (pvL x1), none, some (pvL x2), none] [pvI j7, pvI j5] (true, n, e, σ) (0, some (pvL r), true, n, e, σ) := by
                obtain ⟨j9, k10, h⟩ := bd h
                have k10J : Go none (Ev (d + 0)) mt128 84 [some (pvL x1), none, some (pvL x2), none] [pvL j9] (true, n, e, σ) (0, some (pvL r), true, n, e, σ) := by
                  cases h
                  exact go_lret dX6_product_84 rfl rfl
                clear h
                have h := k10
                refine go_icmp_ne (t := 81) (pc' := 75) dX6_product_72 rfl rfl (fun c11 => ?_) (fun c11 => ?_)
                · rw [if_pos (show j5 ≠ j7 from c11)] at h
                  refine go_ldc2 (pc' := 84) dX6_product_81 rfl (r64_c rfl) rc_6_164 ?_
                  cases h
                  exact k10J
                · rw [if_neg (show ¬ (j5 ≠ j7) from c11)] at h
                  refine go_ldc2 (pc' := 78) dX6_product_75 rfl (r64_c rfl) rc_6_162 ?_
                  refine go_goto (t := 84) dX6_product_78 rfl ?_
                  cases h
                  exact k10J
              clear h
              have h := k8
              refine go_if_ge (t := 71) (pc' := 67) dX6_product_64 rfl rfl (fun c12 => ?_) (fun c12 => ?_)
              · rw [if_pos (show 0 ≤ (lcm x2 0) from c12)] at h
                refine go_iconst (pc' := 72) dX6_product_71 rfl (r32_c rfl) ?_
                cases h
                exact k8J
              · rw [if_neg (show ¬ (0 ≤ (lcm x2 0)) from c12)] at h
                refine go_iconst (pc' := 68) dX6_product_67 rfl (r32_c rfl) ?_
                refine go_goto (t := 72) dX6_product_68 rfl ?_
                cases h
                exact k8J
            clear h
            have h := k6
            refine go_if_ge (t := 60) (pc' := 56) dX6_product_53 rfl rfl (fun c13 => ?_) (fun c13 => ?_)
            · rw [if_pos (show 0 ≤ (lcm x1 0) from c13)] at h
              refine go_iconst (pc' := 61) dX6_product_60 rfl (r32_c rfl) ?_
              cases h
              exact k6J
            · rw [if_neg (show ¬ (0 ≤ (lcm x1 0)) from c13)] at h
              refine go_iconst (pc' := 57) dX6_product_56 rfl (r32_c rfl) ?_
              refine go_goto (t := 61) dX6_product_57 rfl ?_
              cases h
              exact k6J
        · rw [if_neg (show ¬ ((lcm x2 0) ≠ 0) from c15)] at h
          refine go_lconst (z := 0) (pc' := 33) dX6_product_32 rfl rfl ?_
          cases h
          exact go_lret dX6_product_33 rfl rfl
    · rw [if_neg (show ¬ ((lcm x2 (-9223372036854775808)) ≠ 0) from c17)] at h
      refine go_ldc2 (pc' := 19) dX6_product_16 rfl (r64_c rfl) rc_6_66 ?_
      cases h
      exact go_lret dX6_product_19 rfl rfl

set_option maxRecDepth 10000 in
theorem l_R_joined (d : Nat) (n e : Nat) (σ : Hp) (x1 : Int) (x2 : Int) (x3 : Int) (r : Int) (h : f_R_joined σ x1 x2 x3 = some r) : Ev (d + 3) 127 [pvI x1, pvL x2, pvL x3] (true, n, e, σ) (0, some (pvL r), true, n, e, σ) := by
  unfold f_R_joined at h
  refine Ev.of mtE127 rfl rfl rfl rfl ?_
  show Go none (Ev (d + 2)) mt127 0 [some (pvI x1), some (pvL x2), none, some (pvL x3), none] [] (true, n, e, σ) (0, some (pvL r), true, n, e, σ)
  refine go_iload_n (pc' := 1) dX6_joined_0 rfl rfl ?_
  refine go_iconst (pc' := 2) dX6_joined_1 rfl (r32_c rfl) ?_
  refine go_icmp_eq (t := 10) (pc' := 5) dX6_joined_2 rfl rfl (fun c19 => ?_) (fun c19 => ?_)
  · rw [if_pos (show x1 = 3 from c19)] at h
    refine go_lload_n (pc' := 11) dX6_joined_10 rfl rfl ?_
    refine go_lload_n (pc' := 12) dX6_joined_11 rfl rfl ?_
    refine go_iload_n (pc' := 13) dX6_joined_12 rfl rfl ?_
    refine go_iconst (pc' := 14) dX6_joined_13 rfl (r32_c rfl) ?_
    obtain ⟨j1, k2, h⟩ := bd h
    have k2J : Go none (Ev (d + 2)) mt127 22 [some (pvI x1), some (pvL x2), none, some (pvL x3), none] [pvI j1, pvL x3, pvL x2] (true, n, e, σ) (0, some (pvL r), true, n, e, σ) := by
      obtain ⟨v3, k4, h⟩ := bd h
      have k4 := l_R_plus (d + 0) n e σ x2 x3 j1 _ k4
      refine go_call (kc := 124) (Mc := mt124) (v := some (pvL v3)) (w' := (true, n, e, σ)) (pc' := 25) (st' := [pvL v3]) [pvL x2, pvL x3, pvI j1] [] (Or.inr (Or.inl rfl)) dX6_joined_22 rfl rm_6_142 mtE124 rfl rfl rfl (Nat.le_of_ble_eq_true rfl) (Or.inl (by decide)) k4 rfl ?_
      cases h
      exact go_lret dX6_joined_25 rfl rfl
    clear h
    have h := k2
    refine go_icmp_ne (t := 21) (pc' := 17) dX6_joined_14 rfl rfl (fun c5 => ?_) (fun c5 => ?_)
    · rw [if_pos (show x1 ≠ 3 from c5)] at h
      refine go_iconst (pc' := 22) dX6_joined_21 rfl (r32_c rfl) ?_
      cases h
      exact k2J
    · rw [if_neg (show ¬ (x1 ≠ 3) from c5)] at h
      refine go_iconst (pc' := 18) dX6_joined_17 rfl (r32_c rfl) ?_
      refine go_goto (t := 22) dX6_joined_18 rfl ?_
      cases h
      exact k2J
  · rw [if_neg (show ¬ (x1 = 3) from c19)] at h
    refine go_iload_n (pc' := 6) dX6_joined_5 rfl rfl ?_
    refine go_iconst (pc' := 7) dX6_joined_6 rfl (r32_c rfl) ?_
    refine go_icmp_ne (t := 26) (pc' := 10) dX6_joined_7 rfl rfl (fun c18 => ?_) (fun c18 => ?_)
    · rw [if_pos (show x1 ≠ 4 from c18)] at h
      refine go_iload_n (pc' := 27) dX6_joined_26 rfl rfl ?_
      refine go_iconst (pc' := 28) dX6_joined_27 rfl (r32_c rfl) ?_
      obtain ⟨j6, k7, h⟩ := bd h
      have k7J : Go none (Ev (d + 2)) mt127 44 [some (pvI x1), some (pvL x2), none, some (pvL x3), none] [pvL j6] (true, n, e, σ) (0, some (pvL r), true, n, e, σ) := by
        cases h
        exact go_lret dX6_joined_44 rfl rfl
      clear h
      have h := k7
      refine go_icmp_ne (t := 39) (pc' := 31) dX6_joined_28 rfl rfl (fun c12 => ?_) (fun c12 => ?_)
      · rw [if_pos (show x1 ≠ 5 from c12)] at h
        refine go_lload_n (pc' := 40) dX6_joined_39 rfl rfl ?_
        refine go_lload_n (pc' := 41) dX6_joined_40 rfl rfl ?_
        obtain ⟨v8, k9, h⟩ := bd h
        have k9 := l_R_ratio (d + 0) n e σ x2 x3 _ k9
        refine go_call (kc := 115) (Mc := mt115) (v := some (pvL v8)) (w' := (true, n, e, σ)) (pc' := 44) (st' := [pvL v8]) [pvL x2, pvL x3] [] (Or.inr (Or.inl rfl)) dX6_joined_41 rfl rm_6_150 mtE115 rfl rfl rfl (Nat.le_of_ble_eq_true rfl) (Or.inl (by decide)) k9 rfl ?_
        cases h
        exact k7J
      · rw [if_neg (show ¬ (x1 ≠ 5) from c12)] at h
        refine go_lload_n (pc' := 32) dX6_joined_31 rfl rfl ?_
        refine go_lload_n (pc' := 33) dX6_joined_32 rfl rfl ?_
        obtain ⟨v10, k11, h⟩ := bd h
        have k11 := l_R_product (d + 1) n e σ x2 x3 _ k11
        refine go_call (kc := 128) (Mc := mt128) (v := some (pvL v10)) (w' := (true, n, e, σ)) (pc' := 36) (st' := [pvL v10]) [pvL x2, pvL x3] [] (Or.inr (Or.inl rfl)) dX6_joined_33 rfl rm_6_146 mtE128 rfl rfl rfl (Nat.le_of_ble_eq_true rfl) (Or.inl (by decide)) k11 rfl ?_
        refine go_goto (t := 44) dX6_joined_36 rfl ?_
        cases h
        exact k7J
    · rw [if_neg (show ¬ (x1 ≠ 4) from c18)] at h
      refine go_lload_n (pc' := 11) dX6_joined_10 rfl rfl ?_
      refine go_lload_n (pc' := 12) dX6_joined_11 rfl rfl ?_
      refine go_iload_n (pc' := 13) dX6_joined_12 rfl rfl ?_
      refine go_iconst (pc' := 14) dX6_joined_13 rfl (r32_c rfl) ?_
      obtain ⟨j13, k14, h⟩ := bd h
      have k14J : Go none (Ev (d + 2)) mt127 22 [some (pvI x1), some (pvL x2), none, some (pvL x3), none] [pvI j13, pvL x3, pvL x2] (true, n, e, σ) (0, some (pvL r), true, n, e, σ) := by
        obtain ⟨v15, k16, h⟩ := bd h
        have k16 := l_R_plus (d + 0) n e σ x2 x3 j13 _ k16
        refine go_call (kc := 124) (Mc := mt124) (v := some (pvL v15)) (w' := (true, n, e, σ)) (pc' := 25) (st' := [pvL v15]) [pvL x2, pvL x3, pvI j13] [] (Or.inr (Or.inl rfl)) dX6_joined_22 rfl rm_6_142 mtE124 rfl rfl rfl (Nat.le_of_ble_eq_true rfl) (Or.inl (by decide)) k16 rfl ?_
        cases h
        exact go_lret dX6_joined_25 rfl rfl
      clear h
      have h := k14
      refine go_icmp_ne (t := 21) (pc' := 17) dX6_joined_14 rfl rfl (fun c17 => ?_) (fun c17 => ?_)
      · rw [if_pos (show x1 ≠ 3 from c17)] at h
        refine go_iconst (pc' := 22) dX6_joined_21 rfl (r32_c rfl) ?_
        cases h
        exact k14J
      · rw [if_neg (show ¬ (x1 ≠ 3) from c17)] at h
        refine go_iconst (pc' := 18) dX6_joined_17 rfl (r32_c rfl) ?_
        refine go_goto (t := 22) dX6_joined_18 rfl ?_
        cases h
        exact k14J

set_option maxRecDepth 10000 in
theorem l_R_formulaValue_40 (V : Hp → Int → Int → Option (Int × Hp)) (u : Nat) (hV : ∀ (d n e : Nat) (σ : Hp) (x1 : Int) (x2 : Int) (r : Int × Hp), V σ x1 x2 = some r → Ev (d + u) 110 [pvR 6 0 116, pvI x1, pvI x2] (true, n, e, σ) (0, some (pvL r.1), true, n, e, r.2)) (d : Nat) (n : Nat) (e : Nat) (x1 : Int) (x2 : Int) (x3 : Int) (v5 : Int) {out : Out} : ∀ (F : Nat) (y8 : Int) (y9 : Int) (σ10 : Hp) (j49 : Int × Int × Hp), f_R_formulaValue_40 V x1 x2 x3 v5 F y8 y9 σ10 = some j49 → Go none (Ev (d + u + 4)) mt120 200 [some (pvR 6 0 116), some (pvI x1), some (pvI x2), some (pvI x3), some (pvF v5), some (pvI (x3 * 10)), some (pvI j49.1), some (pvI j49.2.1), none, none] [] (true, n, e, j49.2.2) out → Go none (Ev (d + u + 4)) mt120 40 [some (pvR 6 0 116), some (pvI x1), some (pvI x2), some (pvI x3), some (pvF v5), some (pvI (x3 * 10)), some (pvI y8), some (pvI y9), none, none] [] (true, n, e, σ10) out := by
  intro F
  induction F with
  | zero =>
    intro _ _ _ _ h
    intro _
    rw [f_R_formulaValue_40] at h
    cases h
  | succ F ih =>
    intro y8 y9 σ10 j49 h hx
    rw [f_R_formulaValue_40] at h
    refine go_iload (pc' := 42) dX6_formulaValue_40 rfl rfl ?_
    refine go_aload (pc' := 44) dX6_formulaValue_42 rfl rfl (Nat.le_of_ble_eq_true rfl) ?_
    obtain ⟨g11, h⟩ := gd h
    refine go_getIF (pc' := 47) dX6_formulaValue_44 rfl rf_6_94 rfl g11 ?_
    refine go_icmp_ge (t := 200) (pc' := 50) dX6_formulaValue_47 rfl rfl (fun c48 => ?_) (fun c48 => ?_)
    · rw [if_pos (show (σ10 (Int.toNat v5) 0) ≤ y9 from c48)] at h
      cases h
      exact hx
    · rw [if_neg (show ¬ ((σ10 (Int.toNat v5) 0) ≤ y9) from c48)] at h
      refine go_aload (pc' := 52) dX6_formulaValue_50 rfl rfl (Nat.le_of_ble_eq_true rfl) ?_
      obtain ⟨g12, h⟩ := gd h
      refine go_getRF (k' := 12) (L0 := 10) (P' := (Int.toNat v5 + 1)) (pc' := 55) dX6_formulaValue_52 rfl rf_6_99 rfl rfl g12 (by omega) ?_
      refine go_iload (pc' := 57) dX6_formulaValue_55 rfl rfl ?_
      obtain ⟨g13, h⟩ := gd h
      refine go_iald (pc' := 58) dX6_formulaValue_57 rfl g13 ?_
      refine go_istore (L' := [some (pvR 6 0 116), some (pvI x1), some (pvI x2), some (pvI x3), some (pvF v5), some (pvI (x3 * 10)), some (pvI y8), some (pvI y9), some (pvI (σ10 (Int.toNat v5 + 1) y9)), none]) (pc' := 60) dX6_formulaValue_58 rfl (Nat.le_of_ble_eq_true rfl) rfl ?_
      refine go_iload (pc' := 62) dX6_formulaValue_60 rfl rfl ?_
      obtain ⟨j14, k15, h⟩ := bd h
      have k15J : Go none (Ev (d + u + 4)) mt120 194 [some (pvR 6 0 116), some (pvI x1), some (pvI x2), some (pvI x3), some (pvF v5), some (pvI (x3 * 10)), some (pvI j14.1), some (pvI y9), some (pvI (σ10 (Int.toNat v5 + 1) y9)), none] [] (true, n, e, j14.2) out := by
        obtain ⟨g46, h⟩ := gd h
        refine go_iinc (L' := [some (pvR 6 0 116), some (pvI x1), some (pvI x2), some (pvI x3), some (pvF v5), some (pvI (x3 * 10)), some (pvI j14.1), some (pvI (y9 + 1)), some (pvI (σ10 (Int.toNat v5 + 1) y9)), none]) (pc' := 197) dX6_formulaValue_194 rfl rfl g46 rfl ?_
        refine go_goto (t := 40) dX6_formulaValue_197 rfl ?_
        exact go_sub (ih j14.1 (y9 + 1) j14.2 _ h hx) ⟨Or.inr rfl, Or.inr rfl, Or.inr rfl, Or.inr rfl, Or.inr rfl, Or.inr rfl, Or.inr rfl, Or.inr rfl, Or.inl rfl, Or.inr rfl, trivial⟩
      clear h
      have h := k15
      refine go_if_ne (t := 87) (pc' := 65) dX6_formulaValue_62 rfl rfl (fun c47 => ?_) (fun c47 => ?_)
      · rw [if_pos (show (σ10 (Int.toNat v5 + 1) y9) ≠ 0 from c47)] at h
        refine go_iload (pc' := 89) dX6_formulaValue_87 rfl rfl ?_
        refine go_iconst (pc' := 90) dX6_formulaValue_89 rfl (r32_c rfl) ?_
        refine go_icmp_gt (t := 152) (pc' := 93) dX6_formulaValue_90 rfl rfl (fun c41 => ?_) (fun c41 => ?_)
        · rw [if_pos (show 2 < (σ10 (Int.toNat v5 + 1) y9) from c41)] at h
          refine go_iload (pc' := 154) dX6_formulaValue_152 rfl rfl ?_
          refine go_iload (pc' := 156) dX6_formulaValue_154 rfl rfl ?_
          obtain ⟨g16, h⟩ := gd h
          refine go_isub (pc' := 157) dX6_formulaValue_156 rfl g16 ?_
          refine go_iconst (pc' := 158) dX6_formulaValue_157 rfl (r32_c rfl) ?_
          refine go_icmp_lt (t := 194) (pc' := 161) dX6_formulaValue_158 rfl rfl (fun c25 => ?_) (fun c25 => ?_)
          · rw [if_pos (show (y8 - (x3 * 10)) < 2 from c25)] at h
            cases h
            exact k15J
          · rw [if_neg (show ¬ ((y8 - (x3 * 10)) < 2) from c25)] at h
            obtain ⟨g17, h⟩ := gd h
            refine go_iinc (L' := [some (pvR 6 0 116), some (pvI x1), some (pvI x2), some (pvI x3), some (pvF v5), some (pvI (x3 * 10)), some (pvI (y8 + (-1))), some (pvI y9), some (pvI (σ10 (Int.toNat v5 + 1) y9)), none]) (pc' := 164) dX6_formulaValue_161 rfl rfl g17 rfl ?_
            refine go_aload_n (pc' := 165) dX6_formulaValue_164 rfl rfl (Nat.le_of_ble_eq_true rfl) ?_
            refine go_getR (k' := 13) (L0 := 410) (P' := 119) (pc' := 168) dX6_formulaValue_165 rfl rf_6_19 rfl rfl (by omega) ?_
            refine go_iload (pc' := 170) dX6_formulaValue_168 rfl rfl ?_
            refine go_iconst (pc' := 171) dX6_formulaValue_170 rfl (r32_c rfl) ?_
            obtain ⟨g18, h⟩ := gd h
            refine go_isub (pc' := 172) dX6_formulaValue_171 rfl g18 ?_
            refine go_iload (pc' := 174) dX6_formulaValue_172 rfl rfl ?_
            refine go_aload_n (pc' := 175) dX6_formulaValue_174 rfl rfl (Nat.le_of_ble_eq_true rfl) ?_
            refine go_getR (k' := 13) (L0 := 410) (P' := 119) (pc' := 178) dX6_formulaValue_175 rfl rf_6_19 rfl rfl (by omega) ?_
            refine go_iload (pc' := 180) dX6_formulaValue_178 rfl rfl ?_
            refine go_iconst (pc' := 181) dX6_formulaValue_180 rfl (r32_c rfl) ?_
            obtain ⟨g19, h⟩ := gd h
            refine go_isub (pc' := 182) dX6_formulaValue_181 rfl g19 ?_
            obtain ⟨g20, h⟩ := gd h
            refine go_lald (pc' := 183) dX6_formulaValue_182 rfl g20 ?_
            refine go_aload_n (pc' := 184) dX6_formulaValue_183 rfl rfl (Nat.le_of_ble_eq_true rfl) ?_
            refine go_getR (k' := 13) (L0 := 410) (P' := 119) (pc' := 187) dX6_formulaValue_184 rfl rf_6_19 rfl rfl (by omega) ?_
            refine go_iload (pc' := 189) dX6_formulaValue_187 rfl rfl ?_
            obtain ⟨g21, h⟩ := gd h
            refine go_lald (pc' := 190) dX6_formulaValue_189 rfl g21 ?_
            obtain ⟨v22, k23, h⟩ := bd h
            have k23 := l_R_joined (d + u + 1) n e σ10 (σ10 (Int.toNat v5 + 1) y9) (σ10 119 ((y8 + (-1)) - 1)) (σ10 119 (y8 + (-1))) _ k23
            refine go_call (kc := 127) (Mc := mt127) (v := some (pvL v22)) (w' := (true, n, e, σ10)) (pc' := 193) (st' := [pvL v22, pvI ((y8 + (-1)) - 1), pvR 13 410 119]) [pvI (σ10 (Int.toNat v5 + 1) y9), pvL (σ10 119 ((y8 + (-1)) - 1)), pvL (σ10 119 (y8 + (-1)))] [pvI ((y8 + (-1)) - 1), pvR 13 410 119] (Or.inr (Or.inl rfl)) dX6_formulaValue_190 rfl rm_6_118 mtE127 rfl rfl rfl (Nat.le_of_ble_eq_true rfl) (Or.inl (by decide)) k23 rfl ?_
            obtain ⟨g24, h⟩ := gd h
            refine go_last (pc' := 194) dX6_formulaValue_193 rfl g24 ?_
            cases h
            exact k15J
        · rw [if_neg (show ¬ (2 < (σ10 (Int.toNat v5 + 1) y9)) from c41)] at h
          refine go_iload_n (pc' := 94) dX6_formulaValue_93 rfl rfl ?_
          refine go_iload_n (pc' := 95) dX6_formulaValue_94 rfl rfl ?_
          refine go_aload (pc' := 97) dX6_formulaValue_95 rfl rfl (Nat.le_of_ble_eq_true rfl) ?_
          obtain ⟨g26, h⟩ := gd h
          refine go_getRF (k' := 12) (L0 := 10) (P' := (Int.toNat v5 + 2)) (pc' := 100) dX6_formulaValue_97 rfl rf_6_102 rfl rfl g26 (by omega) ?_
          refine go_iload (pc' := 102) dX6_formulaValue_100 rfl rfl ?_
          obtain ⟨g27, h⟩ := gd h
          refine go_iald (pc' := 103) dX6_formulaValue_102 rfl g27 ?_
          obtain ⟨v28, k29, h⟩ := bd h
          have k29 := l_C_withMember (d + u + 2) n e σ10 x1 x2 (σ10 (Int.toNat v5 + 2) y9) _ k29
          refine go_call (kc := 122) (Mc := mt122) (v := some (pvI v28)) (w' := (true, n, e, σ10)) (pc' := 106) (st' := [pvI v28]) [pvI x1, pvI x2, pvI (σ10 (Int.toNat v5 + 2) y9)] [] (Or.inr (Or.inr (Or.inr (Or.inl rfl)))) dX6_formulaValue_103 rfl rm_6_105 mtE122 rfl rfl rfl (Nat.le_of_ble_eq_true rfl) (Or.inl (by decide)) k29 rfl ?_
          refine go_istore (L' := [some (pvR 6 0 116), some (pvI x1), some (pvI x2), some (pvI x3), some (pvF v5), some (pvI (x3 * 10)), some (pvI y8), some (pvI y9), some (pvI (σ10 (Int.toNat v5 + 1) y9)), some (pvI v28)]) (pc' := 108) dX6_formulaValue_106 rfl (Nat.le_of_ble_eq_true rfl) rfl ?_
          refine go_aload_n (pc' := 109) dX6_formulaValue_108 rfl rfl (Nat.le_of_ble_eq_true rfl) ?_
          refine go_getR (k' := 13) (L0 := 410) (P' := 119) (pc' := 112) dX6_formulaValue_109 rfl rf_6_19 rfl rfl (by omega) ?_
          refine go_iload (pc' := 114) dX6_formulaValue_112 rfl rfl ?_
          refine go_iload (pc' := 116) dX6_formulaValue_114 rfl rfl ?_
          refine go_iconst (pc' := 117) dX6_formulaValue_116 rfl (r32_c rfl) ?_
          obtain ⟨j30, k31, h⟩ := bd h
          have k31J : Go none (Ev (d + u + 4)) mt120 145 [some (pvR 6 0 116), some (pvI x1), some (pvI x2), some (pvI x3), some (pvF v5), some (pvI (x3 * 10)), some (pvI y8), some (pvI y9), some (pvI (σ10 (Int.toNat v5 + 1) y9)), some (pvI v28)] [pvL j30.1, pvI y8, pvR 13 410 119] (true, n, e, j30.2) out := by
            obtain ⟨g38, h⟩ := gd h
            refine go_last (pc' := 146) dX6_formulaValue_145 rfl g38 ?_
            obtain ⟨g39, h⟩ := gd h
            refine go_iinc (L' := [some (pvR 6 0 116), some (pvI x1), some (pvI x2), some (pvI x3), some (pvF v5), some (pvI (x3 * 10)), some (pvI (y8 + 1)), some (pvI y9), some (pvI (σ10 (Int.toNat v5 + 1) y9)), some (pvI v28)]) (pc' := 149) dX6_formulaValue_146 rfl rfl g39 rfl ?_
            refine go_goto (t := 194) dX6_formulaValue_149 rfl ?_
            cases h
            exact go_sub k15J ⟨Or.inr rfl, Or.inr rfl, Or.inr rfl, Or.inr rfl, Or.inr rfl, Or.inr rfl, Or.inr rfl, Or.inr rfl, Or.inr rfl, Or.inl rfl, trivial⟩
          clear h
          have h := k31
          refine go_icmp_ne (t := 130) (pc' := 120) dX6_formulaValue_117 rfl rfl (fun c40 => ?_) (fun c40 => ?_)
          · rw [if_pos (show (σ10 (Int.toNat v5 + 1) y9) ≠ 2 from c40)] at h
            refine go_aload_n (pc' := 131) dX6_formulaValue_130 rfl rfl (Nat.le_of_ble_eq_true rfl) ?_
            refine go_iload (pc' := 133) dX6_formulaValue_131 rfl rfl ?_
            refine go_aload (pc' := 135) dX6_formulaValue_133 rfl rfl (Nat.le_of_ble_eq_true rfl) ?_
            obtain ⟨g32, h⟩ := gd h
            refine go_getRF (k' := 12) (L0 := 10) (P' := (Int.toNat v5 + 3)) (pc' := 138) dX6_formulaValue_135 rfl rf_6_112 rfl rfl g32 (by omega) ?_
            refine go_iload (pc' := 140) dX6_formulaValue_138 rfl rfl ?_
            obtain ⟨g33, h⟩ := gd h
            refine go_iald (pc' := 141) dX6_formulaValue_140 rfl g33 ?_
            refine go_iload_n (pc' := 142) dX6_formulaValue_141 rfl rfl ?_
            obtain ⟨v34, k35, h⟩ := bd h
            have k35 := (by have z := l_R_back V u hV (d + 0) n e σ10 v28 (σ10 (Int.toNat v5 + 3) y9) x3 _ k35; rwa [show d + 0 + u + 4 = d + u + 4 by omega] at z)
            refine go_call (kc := 125) (Mc := mt125) (v := some (pvL v34.1)) (w' := (true, n, e, v34.2)) (pc' := 145) (st' := [pvL v34.1, pvI y8, pvR 13 410 119]) [pvR 6 0 116, pvI v28, pvI (σ10 (Int.toNat v5 + 3) y9), pvI x3] [pvI y8, pvR 13 410 119] (Or.inl rfl) dX6_formulaValue_142 rfl rm_6_115 mtE125 rfl rfl rfl (Nat.le_of_ble_eq_true rfl) (Or.inr ⟨_, _, 116, rfl, Or.inl rfl⟩) k35 rfl ?_
            cases h
            exact k31J
          · rw [if_neg (show ¬ ((σ10 (Int.toNat v5 + 1) y9) ≠ 2) from c40)] at h
            refine go_aload_n (pc' := 121) dX6_formulaValue_120 rfl rfl (Nat.le_of_ble_eq_true rfl) ?_
            refine go_iload (pc' := 123) dX6_formulaValue_121 rfl rfl ?_
            refine go_iload_n (pc' := 124) dX6_formulaValue_123 rfl rfl ?_
            obtain ⟨v36, k37, h⟩ := bd h
            have k37 := (by have z := l_R_toDate V u hV (d + 1) n e σ10 v28 x3 _ k37; rwa [show d + 1 + u + 3 = d + u + 4 by omega] at z)
            refine go_call (kc := 123) (Mc := mt123) (v := some (pvL v36.1)) (w' := (true, n, e, v36.2)) (pc' := 127) (st' := [pvL v36.1, pvI y8, pvR 13 410 119]) [pvR 6 0 116, pvI v28, pvI x3] [pvI y8, pvR 13 410 119] (Or.inl rfl) dX6_formulaValue_124 rfl rm_6_109 mtE123 rfl rfl rfl (Nat.le_of_ble_eq_true rfl) (Or.inr ⟨_, _, 116, rfl, Or.inl rfl⟩) k37 rfl ?_
            refine go_goto (t := 145) dX6_formulaValue_127 rfl ?_
            cases h
            exact k31J
      · rw [if_neg (show ¬ ((σ10 (Int.toNat v5 + 1) y9) ≠ 0) from c47)] at h
        refine go_aload_n (pc' := 66) dX6_formulaValue_65 rfl rfl (Nat.le_of_ble_eq_true rfl) ?_
        refine go_getR (k' := 13) (L0 := 410) (P' := 119) (pc' := 69) dX6_formulaValue_66 rfl rf_6_19 rfl rfl (by omega) ?_
        refine go_iload (pc' := 71) dX6_formulaValue_69 rfl rfl ?_
        refine go_aload (pc' := 73) dX6_formulaValue_71 rfl rfl (Nat.le_of_ble_eq_true rfl) ?_
        obtain ⟨g42, h⟩ := gd h
        refine go_getRF (k' := 12) (L0 := 10) (P' := (Int.toNat v5 + 2)) (pc' := 76) dX6_formulaValue_73 rfl rf_6_102 rfl rfl g42 (by omega) ?_
        refine go_iload (pc' := 78) dX6_formulaValue_76 rfl rfl ?_
        obtain ⟨g43, h⟩ := gd h
        refine go_iald (pc' := 79) dX6_formulaValue_78 rfl g43 ?_
        refine go_i2l (pc' := 80) dX6_formulaValue_79 rfl ?_
        obtain ⟨g44, h⟩ := gd h
        refine go_last (pc' := 81) dX6_formulaValue_80 rfl g44 ?_
        obtain ⟨g45, h⟩ := gd h
        refine go_iinc (L' := [some (pvR 6 0 116), some (pvI x1), some (pvI x2), some (pvI x3), some (pvF v5), some (pvI (x3 * 10)), some (pvI (y8 + 1)), some (pvI y9), some (pvI (σ10 (Int.toNat v5 + 1) y9)), none]) (pc' := 84) dX6_formulaValue_81 rfl rfl g45 rfl ?_
        refine go_goto (t := 194) dX6_formulaValue_84 rfl ?_
        cases h
        exact k15J

set_option maxRecDepth 10000 in
theorem l_R_formulaValue (V : Hp → Int → Int → Option (Int × Hp)) (u : Nat) (hV : ∀ (d n e : Nat) (σ : Hp) (x1 : Int) (x2 : Int) (r : Int × Hp), V σ x1 x2 = some r → Ev (d + u) 110 [pvR 6 0 116, pvI x1, pvI x2] (true, n, e, σ) (0, some (pvL r.1), true, n, e, r.2)) (d : Nat) (n e : Nat) (σ : Hp) (x1 : Int) (x2 : Int) (x3 : Int) (r : Int × Hp) (h : f_R_formulaValue V σ x1 x2 x3 = some r) : Ev (d + u + 5) 120 [pvR 6 0 116, pvI x1, pvI x2, pvI x3] (true, n, e, σ) (0, some (pvL r.1), true, n, e, r.2) := by
  unfold f_R_formulaValue at h
  refine Ev.of mtE120 rfl rfl rfl rfl ?_
  show Go none (Ev (d + u + 4)) mt120 0 [some (pvR 6 0 116), some (pvI x1), some (pvI x2), some (pvI x3), none, none, none, none, none, none] [] (true, n, e, σ) (0, some (pvL r.1), true, n, e, r.2)
  refine go_aload_n (pc' := 1) dX6_formulaValue_0 rfl rfl (Nat.le_of_ble_eq_true rfl) ?_
  refine go_getR (k' := 7) (L0 := 0) (P' := 1) (pc' := 4) dX6_formulaValue_1 rfl rf_6_37 rfl rfl (by omega) ?_
  refine go_iload_n (pc' := 5) dX6_formulaValue_4 rfl rfl ?_
  obtain ⟨v1, k2, h⟩ := bd h
  have k2 := l_S_dimension (d + u + 3) n e σ x2 _ k2
  refine go_call (kc := 21) (Mc := mt21) (v := some (pvR 0 0 v1)) (w' := (true, n, e, σ)) (pc' := 8) (st' := [pvR 0 0 v1]) [pvR 7 0 1, pvI x2] [] (Or.inl rfl) dX6_formulaValue_5 rfl rm_6_80 mtE21 rfl rfl rfl (Nat.le_of_ble_eq_true rfl) (Or.inr ⟨_, _, 1, rfl, Or.inl rfl⟩) k2 rfl ?_
  refine go_iload_n (pc' := 9) dX6_formulaValue_8 rfl rfl ?_
  refine go_iload_n (pc' := 10) dX6_formulaValue_9 rfl rfl ?_
  obtain ⟨v3, k4, h⟩ := bd h
  have k4 := l_C_memberOf (d + u + 3) n e σ x1 x2 _ k4
  refine go_call (kc := 79) (Mc := mt79) (v := some (pvI v3)) (w' := (true, n, e, σ)) (pc' := 13) (st' := [pvI v3, pvR 0 0 v1]) [pvI x1, pvI x2] [pvR 0 0 v1] (Or.inr (Or.inr (Or.inr (Or.inl rfl)))) dX6_formulaValue_10 rfl rm_6_84 mtE79 rfl rfl rfl (Nat.le_of_ble_eq_true rfl) (Or.inl (by decide)) k4 rfl ?_
  obtain ⟨v5, k6, h⟩ := bd h
  have k6 := l_D_formulaOf (d + u + 2) n e σ v1 v3 _ k6
  refine go_call (kc := 121) (Mc := mt121) (v := some (pvF v5)) (w' := (true, n, e, σ)) (pc' := 16) (st' := [pvF v5]) [pvR 0 0 v1, pvI v3] [] (Or.inl rfl) dX6_formulaValue_13 rfl rm_6_88 mtE121 rfl rfl rfl (Nat.le_of_ble_eq_true rfl) (Or.inr ⟨_, _, v1, rfl, Or.inl rfl⟩) k6 rfl ?_
  refine go_astore (L' := [some (pvR 6 0 116), some (pvI x1), some (pvI x2), some (pvI x3), some (pvF v5), none, none, none, none, none]) (pc' := 18) dX6_formulaValue_16 rfl (Nat.le_of_ble_eq_true rfl) (Nat.le_of_ble_eq_true rfl) rfl ?_
  refine go_aload (pc' := 20) dX6_formulaValue_18 rfl rfl (Nat.le_of_ble_eq_true rfl) ?_
  refine go_ifnn (t := 27) (pc' := 23) dX6_formulaValue_20 rfl rfl (fun c56 => ?_) (fun c56 => ?_)
  · rw [if_pos (show 0 ≤ v5 from c56)] at h
    refine go_iload_n (pc' := 28) dX6_formulaValue_27 rfl rfl ?_
    refine go_bipush (pc' := 30) dX6_formulaValue_28 rfl (r32_c rfl) (by decide) ?_
    obtain ⟨g7, h⟩ := gd h
    refine go_imul (pc' := 31) dX6_formulaValue_30 rfl g7 ?_
    refine go_istore (L' := [some (pvR 6 0 116), some (pvI x1), some (pvI x2), some (pvI x3), some (pvF v5), some (pvI (x3 * 10)), none, none, none, none]) (pc' := 33) dX6_formulaValue_31 rfl (Nat.le_of_ble_eq_true rfl) rfl ?_
    refine go_iload (pc' := 35) dX6_formulaValue_33 rfl rfl ?_
    refine go_istore (L' := [some (pvR 6 0 116), some (pvI x1), some (pvI x2), some (pvI x3), some (pvF v5), some (pvI (x3 * 10)), some (pvI (x3 * 10)), none, none, none]) (pc' := 37) dX6_formulaValue_35 rfl (Nat.le_of_ble_eq_true rfl) rfl ?_
    refine go_iconst (pc' := 38) dX6_formulaValue_37 rfl (r32_c rfl) ?_
    refine go_istore (L' := [some (pvR 6 0 116), some (pvI x1), some (pvI x2), some (pvI x3), some (pvF v5), some (pvI (x3 * 10)), some (pvI (x3 * 10)), some (pvI 0), none, none]) (pc' := 40) dX6_formulaValue_38 rfl (Nat.le_of_ble_eq_true rfl) rfl ?_
    obtain ⟨j50, k51, h⟩ := bd h
    refine l_R_formulaValue_40 V u hV d n e x1 x2 x3 v5 zFuel (x3 * 10) 0 σ _ k51 ?_
    refine go_iload (pc' := 202) dX6_formulaValue_200 rfl rfl ?_
    refine go_iload (pc' := 204) dX6_formulaValue_202 rfl rfl ?_
    obtain ⟨j52, k53, h⟩ := bd h
    have k53J : Go none (Ev (d + u + 4)) mt120 220 [some (pvR 6 0 116), some (pvI x1), some (pvI x2), some (pvI x3), some (pvF v5), some (pvI (x3 * 10)), some (pvI j50.1), some (pvI j50.2.1), none, none] [pvL j52] (true, n, e, j50.2.2) (0, some (pvL r.1), true, n, e, r.2) := by
      cases h
      exact go_lret dX6_formulaValue_220 rfl rfl
    clear h
    have h := k53
    refine go_icmp_le (t := 217) (pc' := 207) dX6_formulaValue_204 rfl rfl (fun c55 => ?_) (fun c55 => ?_)
    · rw [if_pos (show j50.1 ≤ (x3 * 10) from c55)] at h
      refine go_ldc2 (pc' := 220) dX6_formulaValue_217 rfl (r64_c rfl) rc_6_66 ?_
      cases h
      exact k53J
    · rw [if_neg (show ¬ (j50.1 ≤ (x3 * 10)) from c55)] at h
      refine go_aload_n (pc' := 208) dX6_formulaValue_207 rfl rfl (Nat.le_of_ble_eq_true rfl) ?_
      refine go_getR (k' := 13) (L0 := 410) (P' := 119) (pc' := 211) dX6_formulaValue_208 rfl rf_6_19 rfl rfl (by omega) ?_
      refine go_iload (pc' := 213) dX6_formulaValue_211 rfl rfl ?_
      obtain ⟨g54, h⟩ := gd h
      refine go_lald (pc' := 214) dX6_formulaValue_213 rfl g54 ?_
      refine go_goto (t := 220) dX6_formulaValue_214 rfl ?_
      cases h
      exact k53J
  · rw [if_neg (show ¬ (0 ≤ v5) from c56)] at h
    refine go_ldc2 (pc' := 26) dX6_formulaValue_23 rfl (r64_c rfl) rc_6_66 ?_
    cases h
    exact go_lret dX6_formulaValue_26 rfl rfl

set_option maxRecDepth 10000 in
theorem l_R_valueOf : ∀ (F : Nat) (d n e : Nat) (σ : Hp) (x1 : Int) (x2 : Int) (r : Int × Hp), f_R_valueOf F σ x1 x2 = some r → Ev (d + F * 6) 110 [pvR 6 0 116, pvI x1, pvI x2] (true, n, e, σ) (0, some (pvL r.1), true, n, e, r.2) := by
  intro F
  induction F with
  | zero =>
    intro _ _ _ _ _ _ _ h
    rw [f_R_valueOf] at h
    cases h
  | succ F ih =>
    intro d n e σ x1 x2 r h
    rw [f_R_valueOf] at h
    rw [show d + (F + 1) * 6 = d + F * 6 + 5 + 1 by omega]
    refine Ev.of mtE110 rfl rfl rfl rfl ?_
    show Go none (Ev (d + F * 6 + 5)) mt110 0 [some (pvR 6 0 116), some (pvI x1), some (pvI x2), none] [] (true, n, e, σ) (0, some (pvL r.1), true, n, e, r.2)
    refine go_iload_n (pc' := 1) dX6_valueOf_0 rfl rfl ?_
    refine go_if_lt (t := 17) (pc' := 4) dX6_valueOf_1 rfl rfl (fun c19 => ?_) (fun c19 => ?_)
    · rw [if_pos (show x1 < 0 from c19)] at h
      refine go_ldc2 (pc' := 20) dX6_valueOf_17 rfl (r64_c rfl) rc_6_66 ?_
      cases h
      exact go_lret dX6_valueOf_20 rfl rfl
    · rw [if_neg (show ¬ (x1 < 0) from c19)] at h
      refine go_iload_n (pc' := 5) dX6_valueOf_4 rfl rfl ?_
      refine go_sipush (pc' := 8) dX6_valueOf_5 rfl (r32_c rfl) (by decide) ?_
      refine go_icmp_ge (t := 17) (pc' := 11) dX6_valueOf_8 rfl rfl (fun c18 => ?_) (fun c18 => ?_)
      · rw [if_pos (show 1728 ≤ x1 from c18)] at h
        refine go_ldc2 (pc' := 20) dX6_valueOf_17 rfl (r64_c rfl) rc_6_66 ?_
        cases h
        exact go_lret dX6_valueOf_20 rfl rfl
      · rw [if_neg (show ¬ (1728 ≤ x1) from c18)] at h
        refine go_iload_n (pc' := 12) dX6_valueOf_11 rfl rfl ?_
        refine go_bipush (pc' := 14) dX6_valueOf_12 rfl (r32_c rfl) (by decide) ?_
        refine go_icmp_le (t := 21) (pc' := 17) dX6_valueOf_14 rfl rfl (fun c17 => ?_) (fun c17 => ?_)
        · rw [if_pos (show x2 ≤ 40 from c17)] at h
          refine go_aload_n (pc' := 22) dX6_valueOf_21 rfl rfl (Nat.le_of_ble_eq_true rfl) ?_
          refine go_getR (k' := 12) (L0 := 1728) (P' := 117) (pc' := 25) dX6_valueOf_22 rfl rf_6_9 rfl rfl (by omega) ?_
          refine go_iload_n (pc' := 26) dX6_valueOf_25 rfl rfl ?_
          obtain ⟨g1, h⟩ := gd h
          refine go_iald (pc' := 27) dX6_valueOf_26 rfl g1 ?_
          refine go_aload_n (pc' := 28) dX6_valueOf_27 rfl rfl (Nat.le_of_ble_eq_true rfl) ?_
          refine go_getI (pc' := 31) dX6_valueOf_28 rfl rf_6_53 rfl ?_
          obtain ⟨j2, k3, h⟩ := bd h
          have k3J : Go none (Ev (d + F * 6 + 5)) mt110 79 [some (pvR 6 0 116), some (pvI x1), some (pvI x2), none] [] (true, n, e, j2) (0, some (pvL r.1), true, n, e, r.2) := by
            refine go_aload_n (pc' := 80) dX6_valueOf_79 rfl rfl (Nat.le_of_ble_eq_true rfl) ?_
            refine go_getR (k' := 13) (L0 := 1728) (P' := 118) (pc' := 83) dX6_valueOf_80 rfl rf_6_15 rfl rfl (by omega) ?_
            refine go_iload_n (pc' := 84) dX6_valueOf_83 rfl rfl ?_
            obtain ⟨g15, h⟩ := gd h
            refine go_lald (pc' := 85) dX6_valueOf_84 rfl g15 ?_
            cases h
            exact go_lret dX6_valueOf_85 rfl rfl
          clear h
          have h := k3
          refine go_icmp_eq (t := 79) (pc' := 34) dX6_valueOf_31 rfl rfl (fun c16 => ?_) (fun c16 => ?_)
          · rw [if_pos (show (σ 117 x1) = (σ 116 4) from c16)] at h
            cases h
            exact k3J
          · rw [if_neg (show ¬ ((σ 117 x1) = (σ 116 4)) from c16)] at h
            refine go_aload_n (pc' := 35) dX6_valueOf_34 rfl rfl (Nat.le_of_ble_eq_true rfl) ?_
            refine go_getR (k' := 7) (L0 := 0) (P' := 1) (pc' := 38) dX6_valueOf_35 rfl rf_6_37 rfl rfl (by omega) ?_
            refine go_iload_n (pc' := 39) dX6_valueOf_38 rfl rfl ?_
            obtain ⟨v4, k5, h⟩ := bd h
            have k5 := l_S_leading (d + F * 6 + 2) n e σ x1 _ k5
            refine go_call (kc := 89) (Mc := mt89) (v := some (pvI v4)) (w' := (true, n, e, σ)) (pc' := 42) (st' := [pvI v4]) [pvR 7 0 1, pvI x1] [] (Or.inl rfl) dX6_valueOf_39 rfl rm_6_68 mtE89 rfl rfl rfl (Nat.le_of_ble_eq_true rfl) (Or.inr ⟨_, _, 1, rfl, Or.inl rfl⟩) k5 rfl ?_
            refine go_istore_n (L' := [some (pvR 6 0 116), some (pvI x1), some (pvI x2), some (pvI v4)]) (pc' := 43) dX6_valueOf_42 rfl (Nat.le_of_ble_eq_true rfl) rfl ?_
            refine go_aload_n (pc' := 44) dX6_valueOf_43 rfl rfl (Nat.le_of_ble_eq_true rfl) ?_
            refine go_getR (k' := 13) (L0 := 1728) (P' := 118) (pc' := 47) dX6_valueOf_44 rfl rf_6_15 rfl rfl (by omega) ?_
            refine go_iload_n (pc' := 48) dX6_valueOf_47 rfl rfl ?_
            refine go_iload_n (pc' := 49) dX6_valueOf_48 rfl rfl ?_
            refine go_iconst (pc' := 50) dX6_valueOf_49 rfl (r32_c rfl) ?_
            obtain ⟨j6, k7, h⟩ := bd h
            have k7J : Go none (Ev (d + F * 6 + 5)) mt110 68 [some (pvR 6 0 116), some (pvI x1), some (pvI x2), some (pvI v4)] [pvL j6.1, pvI x1, pvR 13 1728 118] (true, n, e, j6.2) (0, some (pvL r.1), true, n, e, r.2) := by
              obtain ⟨g12, h⟩ := gd h
              refine go_last (pc' := 69) dX6_valueOf_68 rfl g12 ?_
              refine go_aload_n (pc' := 70) dX6_valueOf_69 rfl rfl (Nat.le_of_ble_eq_true rfl) ?_
              refine go_getR (k' := 12) (L0 := 1728) (P' := 117) (pc' := 73) dX6_valueOf_70 rfl rf_6_9 rfl rfl (by omega) ?_
              refine go_iload_n (pc' := 74) dX6_valueOf_73 rfl rfl ?_
              refine go_aload_n (pc' := 75) dX6_valueOf_74 rfl rfl (Nat.le_of_ble_eq_true rfl) ?_
              refine go_getI (pc' := 78) dX6_valueOf_75 rfl rf_6_53 rfl ?_
              obtain ⟨g13, h⟩ := gd h
              refine go_iast (pc' := 79) dX6_valueOf_78 rfl g13 ?_
              cases h
              exact go_sub k3J ⟨Or.inr rfl, Or.inr rfl, Or.inr rfl, Or.inl rfl, trivial⟩
            clear h
            have h := k7
            refine go_icmp_ne (t := 61) (pc' := 53) dX6_valueOf_50 rfl rfl (fun c14 => ?_) (fun c14 => ?_)
            · rw [if_pos (show v4 ≠ (-1) from c14)] at h
              refine go_aload_n (pc' := 62) dX6_valueOf_61 rfl rfl (Nat.le_of_ble_eq_true rfl) ?_
              refine go_iload_n (pc' := 63) dX6_valueOf_62 rfl rfl ?_
              refine go_iload_n (pc' := 64) dX6_valueOf_63 rfl rfl ?_
              refine go_iload_n (pc' := 65) dX6_valueOf_64 rfl rfl ?_
              obtain ⟨v8, k9, h⟩ := bd h
              have k9 := l_R_formulaValue (f_R_valueOf F) (F * 6) (ih) (d + 0) n e σ x1 v4 x2 _ k9
              refine go_call (kc := 120) (Mc := mt120) (v := some (pvL v8.1)) (w' := (true, n, e, v8.2)) (pc' := 68) (st' := [pvL v8.1, pvI x1, pvR 13 1728 118]) [pvR 6 0 116, pvI x1, pvI v4, pvI x2] [pvI x1, pvR 13 1728 118] (Or.inl rfl) dX6_valueOf_65 rfl rm_6_76 mtE120 rfl rfl rfl (Nat.le_of_ble_eq_true rfl) (Or.inr ⟨_, _, 116, rfl, Or.inl rfl⟩) k9 rfl ?_
              cases h
              exact k7J
            · rw [if_neg (show ¬ (v4 ≠ (-1)) from c14)] at h
              refine go_aload_n (pc' := 54) dX6_valueOf_53 rfl rfl (Nat.le_of_ble_eq_true rfl) ?_
              refine go_iload_n (pc' := 55) dX6_valueOf_54 rfl rfl ?_
              obtain ⟨v10, k11, h⟩ := bd h
              have k11 := l_R_plainValue (d + F * 6 + 0) n e σ x1 _ k11
              refine go_call (kc := 111) (Mc := mt111) (v := some (pvL v10.1)) (w' := (true, n, e, v10.2)) (pc' := 58) (st' := [pvL v10.1, pvI x1, pvR 13 1728 118]) [pvR 6 0 116, pvI x1] [pvI x1, pvR 13 1728 118] (Or.inl rfl) dX6_valueOf_55 rfl rm_6_72 mtE111 rfl rfl rfl (Nat.le_of_ble_eq_true rfl) (Or.inr ⟨_, _, 116, rfl, Or.inl rfl⟩) k11 rfl ?_
              refine go_goto (t := 68) dX6_valueOf_58 rfl ?_
              cases h
              exact k7J
        · rw [if_neg (show ¬ (x2 ≤ 40) from c17)] at h
          refine go_ldc2 (pc' := 20) dX6_valueOf_17 rfl (r64_c rfl) rc_6_66 ?_
          cases h
          exact go_lret dX6_valueOf_20 rfl rfl

set_option maxRecDepth 10000 in
theorem l_R_asAsked (d : Nat) (n e : Nat) (σ : Hp) (x1 : Int) (r : Int × Hp) (h : f_R_asAsked σ x1 = some r) : Ev (d + 241) 109 [pvR 6 0 116, pvI x1] (true, n, e, σ) (0, some (pvL r.1), true, n, e, r.2) := by
  unfold f_R_asAsked at h
  refine Ev.of mtE109 rfl rfl rfl rfl ?_
  show Go none (Ev (d + 240)) mt109 0 [some (pvR 6 0 116), some (pvI x1)] [] (true, n, e, σ) (0, some (pvL r.1), true, n, e, r.2)
  refine go_aload_n (pc' := 1) dX6_asAsked_0 rfl rfl (Nat.le_of_ble_eq_true rfl) ?_
  refine go_getR (k' := 7) (L0 := 0) (P' := 1) (pc' := 4) dX6_asAsked_1 rfl rf_6_37 rfl rfl (by omega) ?_
  refine go_iload_n (pc' := 5) dX6_asAsked_4 rfl rfl ?_
  obtain ⟨v1, k2, h⟩ := bd h
  have k2 := l_S_isSeen (d + 238) n e σ x1 _ k2
  refine go_call (kc := 92) (Mc := mt92) (v := some (pvI v1)) (w' := (true, n, e, σ)) (pc' := 8) (st' := [pvI v1]) [pvR 7 0 1, pvI x1] [] (Or.inl rfl) dX6_asAsked_5 rfl rm_6_56 mtE92 rfl rfl rfl (Nat.le_of_ble_eq_true rfl) (Or.inr ⟨_, _, 1, rfl, Or.inl rfl⟩) k2 rfl ?_
  obtain ⟨j3, k4, h⟩ := bd h
  have k4J : Go none (Ev (d + 240)) mt109 23 [some (pvR 6 0 116), some (pvI x1)] [pvL j3.1] (true, n, e, j3.2) (0, some (pvL r.1), true, n, e, r.2) := by
    cases h
    exact go_lret dX6_asAsked_23 rfl rfl
  clear h
  have h := k4
  refine go_if_eq (t := 20) (pc' := 11) dX6_asAsked_8 rfl rfl (fun c7 => ?_) (fun c7 => ?_)
  · rw [if_pos (show v1 = 0 from c7)] at h
    refine go_ldc2 (pc' := 23) dX6_asAsked_20 rfl (r64_c rfl) rc_6_66 ?_
    cases h
    exact k4J
  · rw [if_neg (show ¬ (v1 = 0) from c7)] at h
    refine go_aload_n (pc' := 12) dX6_asAsked_11 rfl rfl (Nat.le_of_ble_eq_true rfl) ?_
    refine go_iload_n (pc' := 13) dX6_asAsked_12 rfl rfl ?_
    refine go_iconst (pc' := 14) dX6_asAsked_13 rfl (r32_c rfl) ?_
    obtain ⟨v5, k6, h⟩ := bd h
    have k6 := l_R_valueOf zDeep (d + 0) n e σ x1 0 _ k6
    refine go_call (kc := 110) (Mc := mt110) (v := some (pvL v5.1)) (w' := (true, n, e, v5.2)) (pc' := 17) (st' := [pvL v5.1]) [pvR 6 0 116, pvI x1, pvI 0] [] (Or.inl rfl) dX6_asAsked_14 rfl rm_6_62 mtE110 rfl rfl rfl (Nat.le_of_ble_eq_true rfl) (Or.inr ⟨_, _, 116, rfl, Or.inl rfl⟩) k6 rfl ?_
    refine go_goto (t := 23) dX6_asAsked_17 rfl ?_
    cases h
    exact k4J

set_option maxRecDepth 10000 in
theorem l_K_keep_12 (d : Nat) (n : Nat) (e : Nat) (x1 : Int) (x2 : Int) (x3 : Int) {out : Out} : ∀ (F : Nat) (y3 : Int) (σ4 : Hp) (j10 : Int × Hp), f_K_keep_12 F y3 σ4 = some j10 → Go none (Ev (d + 2)) mt129 35 [some (pvR 3 0 108), some (pvI x1), some (pvI x2), some (pvL x3), none, some (pvI j10.1)] [] (true, n, e, j10.2) out → Go none (Ev (d + 2)) mt129 12 [some (pvR 3 0 108), some (pvI x1), some (pvI x2), some (pvL x3), none, some (pvI y3)] [] (true, n, e, σ4) out := by
  intro F
  induction F with
  | zero =>
    intro _ _ _ h
    intro _
    rw [f_K_keep_12] at h
    cases h
  | succ F ih =>
    intro y3 σ4 j10 h hx
    rw [f_K_keep_12] at h
    refine go_iload (pc' := 14) dX3_keep_12 rfl rfl ?_
    refine go_bipush (pc' := 16) dX3_keep_14 rfl (r32_c rfl) (by decide) ?_
    refine go_icmp_ge (t := 35) (pc' := 19) dX3_keep_16 rfl rfl (fun c9 => ?_) (fun c9 => ?_)
    · rw [if_pos (show 20 ≤ y3 from c9)] at h
      cases h
      exact hx
    · rw [if_neg (show ¬ (20 ≤ y3) from c9)] at h
      refine go_aload_n (pc' := 20) dX3_keep_19 rfl rfl (Nat.le_of_ble_eq_true rfl) ?_
      refine go_iload (pc' := 22) dX3_keep_20 rfl rfl ?_
      refine go_iload (pc' := 24) dX3_keep_22 rfl rfl ?_
      refine go_iconst (pc' := 25) dX3_keep_24 rfl (r32_c rfl) ?_
      obtain ⟨g5, h⟩ := gd h
      refine go_isub (pc' := 26) dX3_keep_25 rfl g5 ?_
      obtain ⟨v6, k7, h⟩ := bd h
      have k7 := l_K_shift (d + 0) n e σ4 y3 (y3 - 1) _ k7
      refine go_call (kc := 94) (Mc := mt94) (v := none) (w' := (true, n, e, v6)) (pc' := 29) (st' := []) [pvR 3 0 108, pvI y3, pvI (y3 - 1)] [] (Or.inl rfl) dX3_keep_26 rfl rm_3_32 mtE94 rfl rfl rfl (Nat.le_of_ble_eq_true rfl) (Or.inr ⟨_, _, 108, rfl, Or.inl rfl⟩) k7 rfl ?_
      obtain ⟨g8, h⟩ := gd h
      refine go_iinc (L' := [some (pvR 3 0 108), some (pvI x1), some (pvI x2), some (pvL x3), none, some (pvI (y3 + 1))]) (pc' := 32) dX3_keep_29 rfl rfl g8 rfl ?_
      refine go_goto (t := 12) dX3_keep_32 rfl ?_
      exact ih (y3 + 1) v6 _ h hx

set_option maxRecDepth 10000 in
theorem l_K_keep (d : Nat) (n e : Nat) (σ : Hp) (x1 : Int) (x2 : Int) (x3 : Int) (r : Hp) (h : f_K_keep σ x1 x2 x3 = some r) : Ev (d + 3) 129 [pvR 3 0 108, pvI x1, pvI x2, pvL x3] (true, n, e, σ) (0, none, true, n, e, r) := by
  unfold f_K_keep at h
  refine Ev.of mtE129 rfl rfl rfl rfl ?_
  show Go none (Ev (d + 2)) mt129 0 [some (pvR 3 0 108), some (pvI x1), some (pvI x2), some (pvL x3), none, none] [] (true, n, e, σ) (0, none, true, n, e, r)
  refine go_aload_n (pc' := 1) dX3_keep_0 rfl rfl (Nat.le_of_ble_eq_true rfl) ?_
  refine go_getI (pc' := 4) dX3_keep_1 rfl rf_3_22 rfl ?_
  refine go_bipush (pc' := 6) dX3_keep_4 rfl (r32_c rfl) (by decide) ?_
  obtain ⟨j1, k2, h⟩ := bd h
  have k2J : Go none (Ev (d + 2)) mt129 41 [some (pvR 3 0 108), some (pvI x1), some (pvI x2), some (pvL x3), none, none] [] (true, n, e, j1) (0, none, true, n, e, r) := by
    refine go_aload_n (pc' := 42) dX3_keep_41 rfl rfl (Nat.le_of_ble_eq_true rfl) ?_
    refine go_getR (k' := 12) (L0 := 20) (P' := 109) (pc' := 45) dX3_keep_42 rfl rf_3_9 rfl rfl (by omega) ?_
    refine go_aload_n (pc' := 46) dX3_keep_45 rfl rfl (Nat.le_of_ble_eq_true rfl) ?_
    refine go_getI (pc' := 49) dX3_keep_46 rfl rf_3_22 rfl ?_
    refine go_iload_n (pc' := 50) dX3_keep_49 rfl rfl ?_
    obtain ⟨g13, h⟩ := gd h
    refine go_iast (pc' := 51) dX3_keep_50 rfl g13 ?_
    refine go_aload_n (pc' := 52) dX3_keep_51 rfl rfl (Nat.le_of_ble_eq_true rfl) ?_
    refine go_getR (k' := 12) (L0 := 20) (P' := 110) (pc' := 55) dX3_keep_52 rfl rf_3_15 rfl rfl (by omega) ?_
    refine go_aload_n (pc' := 56) dX3_keep_55 rfl rfl (Nat.le_of_ble_eq_true rfl) ?_
    refine go_getI (pc' := 59) dX3_keep_56 rfl rf_3_22 rfl ?_
    refine go_iload_n (pc' := 60) dX3_keep_59 rfl rfl ?_
    obtain ⟨g14, h⟩ := gd h
    refine go_iast (pc' := 61) dX3_keep_60 rfl g14 ?_
    refine go_aload_n (pc' := 62) dX3_keep_61 rfl rfl (Nat.le_of_ble_eq_true rfl) ?_
    refine go_getR (k' := 13) (L0 := 20) (P' := 111) (pc' := 65) dX3_keep_62 rfl rf_3_18 rfl rfl (by omega) ?_
    refine go_aload_n (pc' := 66) dX3_keep_65 rfl rfl (Nat.le_of_ble_eq_true rfl) ?_
    refine go_getI (pc' := 69) dX3_keep_66 rfl rf_3_22 rfl ?_
    refine go_lload_n (pc' := 70) dX3_keep_69 rfl rfl ?_
    obtain ⟨g15, h⟩ := gd h
    refine go_last (pc' := 71) dX3_keep_70 rfl g15 ?_
    refine go_aload_n (pc' := 72) dX3_keep_71 rfl rfl (Nat.le_of_ble_eq_true rfl) ?_
    refine go_dup (pc' := 73) dX3_keep_72 rfl (Nat.ne_of_beq_eq_false rfl) ?_
    refine go_getI (pc' := 76) dX3_keep_73 rfl rf_3_22 rfl ?_
    refine go_iconst (pc' := 77) dX3_keep_76 rfl (r32_c rfl) ?_
    obtain ⟨g16, h⟩ := gd h
    refine go_iadd (pc' := 78) dX3_keep_77 rfl g16 ?_
    refine go_putI (pc' := 81) dX3_keep_78 rfl rf_3_22 rfl ?_
    cases h
    exact go_vret dX3_keep_81 rfl rfl
  clear h
  have h := k2
  refine go_icmp_lt (t := 41) (pc' := 9) dX3_keep_6 rfl rfl (fun c17 => ?_) (fun c17 => ?_)
  · rw [if_pos (show (σ 108 0) < 20 from c17)] at h
    cases h
    exact k2J
  · rw [if_neg (show ¬ ((σ 108 0) < 20) from c17)] at h
    refine go_iconst (pc' := 10) dX3_keep_9 rfl (r32_c rfl) ?_
    refine go_istore (L' := [some (pvR 3 0 108), some (pvI x1), some (pvI x2), some (pvL x3), none, some (pvI 1)]) (pc' := 12) dX3_keep_10 rfl (Nat.le_of_ble_eq_true rfl) rfl ?_
    obtain ⟨j11, k12, h⟩ := bd h
    refine l_K_keep_12 d n e x1 x2 x3 zFuel 1 σ _ k12 ?_
    refine go_aload_n (pc' := 36) dX3_keep_35 rfl rfl (Nat.le_of_ble_eq_true rfl) ?_
    refine go_bipush (pc' := 38) dX3_keep_36 rfl (r32_c rfl) (by decide) ?_
    refine go_putI (pc' := 41) dX3_keep_38 rfl rf_3_22 rfl ?_
    cases h
    exact go_sub k2J ⟨Or.inr rfl, Or.inr rfl, Or.inr rfl, Or.inr rfl, Or.inr rfl, Or.inl rfl, trivial⟩

set_option maxRecDepth 10000 in
theorem l_C_cell (d : Nat) (n e : Nat) (σ : Hp) (x1 : Int) (x2 : Int) (x3 : Int) (x4 : Int) (r : Nat × Int × Hp) (h : f_C_cell σ x1 x2 x3 x4 = some r) : Ev (d + 242) 105 [pvR 10 0 0, pvI x1, pvI x2, pvI x3, pvI x4] (true, n, e, σ) (r.1, if r.1 = 0 then some (pvL r.2.1) else none, true, n, e + if r.1 = 0 then 0 else 1, r.2.2) := by
  unfold f_C_cell at h
  refine Ev.of mtE105 rfl rfl rfl rfl ?_
  show Go none (Ev (d + 241)) mt105 0 [some (pvR 10 0 0), some (pvI x1), some (pvI x2), some (pvI x3), some (pvI x4), none, none, none, none] [] (true, n, e, σ) (r.1, if r.1 = 0 then some (pvL r.2.1) else none, true, n, e + if r.1 = 0 then 0 else 1, r.2.2)
  refine go_aload_n (pc' := 1) dX10_cell_0 rfl rfl (Nat.le_of_ble_eq_true rfl) ?_
  refine go_iload_n (pc' := 2) dX10_cell_1 rfl rfl ?_
  refine go_iload_n (pc' := 3) dX10_cell_2 rfl rfl ?_
  refine go_iload_n (pc' := 4) dX10_cell_3 rfl rfl ?_
  refine go_iload (pc' := 6) dX10_cell_4 rfl rfl ?_
  obtain ⟨v1, k2, h⟩ := bd h
  by_cases c3 : v1.1 = 0
  · rw [if_pos c3] at h
    have k2 := l_C_existingCell (d + 238) n e σ x1 x2 x3 x4 _ k2
    rw [c3] at k2
    refine go_call (kc := 77) (Mc := mt77) (v := some (pvI v1.2)) (w' := (true, n, e, σ)) (pc' := 9) (st' := [pvI v1.2]) [pvR 10 0 0, pvI x1, pvI x2, pvI x3, pvI x4] [] (Or.inl rfl) dX10_cell_6 rfl rm_10_205 mtE77 rfl rfl rfl (Nat.le_of_ble_eq_true rfl) (Or.inr ⟨_, _, 0, rfl, Or.inl rfl⟩) k2 rfl ?_
    refine go_istore (L' := [some (pvR 10 0 0), some (pvI x1), some (pvI x2), some (pvI x3), some (pvI x4), some (pvI v1.2), none, none, none]) (pc' := 11) dX10_cell_9 rfl (Nat.le_of_ble_eq_true rfl) rfl ?_
    refine go_aload_n (pc' := 12) dX10_cell_11 rfl rfl (Nat.le_of_ble_eq_true rfl) ?_
    refine go_getR (k' := 7) (L0 := 0) (P' := 1) (pc' := 15) dX10_cell_12 rfl rf_10_12 rfl rfl (by omega) ?_
    refine go_iload (pc' := 17) dX10_cell_15 rfl rfl ?_
    obtain ⟨v4, k5, h⟩ := bd h
    have k5 := l_S_isSeen (d + 239) n e σ v1.2 _ k5
    refine go_call (kc := 92) (Mc := mt92) (v := some (pvI v4)) (w' := (true, n, e, σ)) (pc' := 20) (st' := [pvI v4]) [pvR 7 0 1, pvI v1.2] [] (Or.inl rfl) dX10_cell_17 rfl rm_10_231 mtE92 rfl rfl rfl (Nat.le_of_ble_eq_true rfl) (Or.inr ⟨_, _, 1, rfl, Or.inl rfl⟩) k5 rfl ?_
    refine go_if_ne (t := 27) (pc' := 23) dX10_cell_20 rfl rfl (fun c18 => ?_) (fun c18 => ?_)
    · rw [if_pos (show v4 ≠ 0 from c18)] at h
      refine go_aload_n (pc' := 28) dX10_cell_27 rfl rfl (Nat.le_of_ble_eq_true rfl) ?_
      refine go_getR (k' := 3) (L0 := 0) (P' := 108) (pc' := 31) dX10_cell_28 rfl rf_10_35 rfl rfl (by omega) ?_
      refine go_iload (pc' := 33) dX10_cell_31 rfl rfl ?_
      refine go_iload (pc' := 35) dX10_cell_33 rfl rfl ?_
      obtain ⟨v6, k7, h⟩ := bd h
      have k7 := l_K_find (d + 240) n e σ v1.2 x4 _ k7
      refine go_call (kc := 106) (Mc := mt106) (v := some (pvI v6)) (w' := (true, n, e, σ)) (pc' := 38) (st' := [pvI v6]) [pvR 3 0 108, pvI v1.2, pvI x4] [] (Or.inl rfl) dX10_cell_35 rfl rm_10_234 mtE106 rfl rfl rfl (Nat.le_of_ble_eq_true rfl) (Or.inr ⟨_, _, 108, rfl, Or.inl rfl⟩) k7 rfl ?_
      refine go_istore (L' := [some (pvR 10 0 0), some (pvI x1), some (pvI x2), some (pvI x3), some (pvI x4), some (pvI v1.2), some (pvI v6), none, none]) (pc' := 40) dX10_cell_38 rfl (Nat.le_of_ble_eq_true rfl) rfl ?_
      refine go_iload (pc' := 42) dX10_cell_40 rfl rfl ?_
      refine go_iconst (pc' := 43) dX10_cell_42 rfl (r32_c rfl) ?_
      refine go_icmp_eq (t := 69) (pc' := 46) dX10_cell_43 rfl rfl (fun c17 => ?_) (fun c17 => ?_)
      · rw [if_pos (show v6 = (-1) from c17)] at h
        refine go_aload_n (pc' := 70) dX10_cell_69 rfl rfl (Nat.le_of_ble_eq_true rfl) ?_
        refine go_getR (k' := 6) (L0 := 0) (P' := 116) (pc' := 73) dX10_cell_70 rfl rf_10_51 rfl rfl (by omega) ?_
        refine go_iload (pc' := 75) dX10_cell_73 rfl rfl ?_
        obtain ⟨v8, k9, h⟩ := bd h
        have k9 := l_R_begins (d + 240) n e σ x4 _ k9
        refine go_call (kc := 108) (Mc := mt108) (v := none) (w' := (true, n, e, v8)) (pc' := 78) (st' := []) [pvR 6 0 116, pvI x4] [] (Or.inl rfl) dX10_cell_75 rfl rm_10_242 mtE108 rfl rfl rfl (Nat.le_of_ble_eq_true rfl) (Or.inr ⟨_, _, 116, rfl, Or.inl rfl⟩) k9 rfl ?_
        refine go_aload_n (pc' := 79) dX10_cell_78 rfl rfl (Nat.le_of_ble_eq_true rfl) ?_
        refine go_getR (k' := 6) (L0 := 0) (P' := 116) (pc' := 82) dX10_cell_79 rfl rf_10_51 rfl rfl (by omega) ?_
        refine go_iload (pc' := 84) dX10_cell_82 rfl rfl ?_
        obtain ⟨v10, k11, h⟩ := bd h
        have k11 := l_R_asAsked (d + 0) n e v8 v1.2 _ k11
        refine go_call (kc := 109) (Mc := mt109) (v := some (pvL v10.1)) (w' := (true, n, e, v10.2)) (pc' := 87) (st' := [pvL v10.1]) [pvR 6 0 116, pvI v1.2] [] (Or.inl rfl) dX10_cell_84 rfl rm_10_245 mtE109 rfl rfl rfl (Nat.le_of_ble_eq_true rfl) (Or.inr ⟨_, _, 116, rfl, Or.inl rfl⟩) k11 rfl ?_
        refine go_lstore (L' := [some (pvR 10 0 0), some (pvI x1), some (pvI x2), some (pvI x3), some (pvI x4), some (pvI v1.2), some (pvI v6), some (pvL v10.1), none]) (pc' := 89) dX10_cell_87 rfl (Nat.le_of_ble_eq_true rfl) rfl ?_
        refine go_aload_n (pc' := 90) dX10_cell_89 rfl rfl (Nat.le_of_ble_eq_true rfl) ?_
        refine go_getR (k' := 3) (L0 := 0) (P' := 108) (pc' := 93) dX10_cell_90 rfl rf_10_35 rfl rfl (by omega) ?_
        refine go_iload (pc' := 95) dX10_cell_93 rfl rfl ?_
        refine go_iload (pc' := 97) dX10_cell_95 rfl rfl ?_
        refine go_lload (pc' := 99) dX10_cell_97 rfl rfl ?_
        obtain ⟨v12, k13, h⟩ := bd h
        have k13 := l_K_keep (d + 238) n e v10.2 v1.2 x4 v10.1 _ k13
        refine go_call (kc := 129) (Mc := mt129) (v := none) (w' := (true, n, e, v12)) (pc' := 102) (st' := []) [pvR 3 0 108, pvI v1.2, pvI x4, pvL v10.1] [] (Or.inl rfl) dX10_cell_99 rfl rm_10_248 mtE129 rfl rfl rfl (Nat.le_of_ble_eq_true rfl) (Or.inr ⟨_, _, 108, rfl, Or.inl rfl⟩) k13 rfl ?_
        refine go_lload (pc' := 104) dX10_cell_102 rfl rfl ?_
        cases h
        exact go_lret dX10_cell_104 rfl rfl
      · rw [if_neg (show ¬ (v6 = (-1)) from c17)] at h
        refine go_aload_n (pc' := 47) dX10_cell_46 rfl rfl (Nat.le_of_ble_eq_true rfl) ?_
        refine go_getR (k' := 3) (L0 := 0) (P' := 108) (pc' := 50) dX10_cell_47 rfl rf_10_35 rfl rfl (by omega) ?_
        refine go_dup (pc' := 51) dX10_cell_50 rfl (Nat.ne_of_beq_eq_false rfl) ?_
        refine go_getI (pc' := 54) dX10_cell_51 rfl rf_10_235 rfl ?_
        refine go_iconst (pc' := 55) dX10_cell_54 rfl (r32_c rfl) ?_
        obtain ⟨g14, h⟩ := gd h
        refine go_iadd (pc' := 56) dX10_cell_55 rfl g14 ?_
        refine go_putI (pc' := 59) dX10_cell_56 rfl rf_10_235 rfl ?_
        refine go_aload_n (pc' := 60) dX10_cell_59 rfl rfl (Nat.le_of_ble_eq_true rfl) ?_
        refine go_getR (k' := 3) (L0 := 0) (P' := 108) (pc' := 63) dX10_cell_60 rfl rf_10_35 rfl rfl (by omega) ?_
        refine go_iload (pc' := 65) dX10_cell_63 rfl rfl ?_
        obtain ⟨v15, k16, h⟩ := bd h
        have k16 := l_K_valueAt (d + 239) n e (hset σ 108 1 ((σ 108 1) + 1)) v6 _ k16
        refine go_call (kc := 107) (Mc := mt107) (v := some (pvL v15)) (w' := (true, n, e, (hset σ 108 1 ((σ 108 1) + 1)))) (pc' := 68) (st' := [pvL v15]) [pvR 3 0 108, pvI v6] [] (Or.inl rfl) dX10_cell_65 rfl rm_10_238 mtE107 rfl rfl rfl (Nat.le_of_ble_eq_true rfl) (Or.inr ⟨_, _, 108, rfl, Or.inl rfl⟩) k16 rfl ?_
        cases h
        exact go_lret dX10_cell_68 rfl rfl
    · rw [if_neg (show ¬ (v4 ≠ 0) from c18)] at h
      refine go_ldc2 (pc' := 26) dX10_cell_23 rfl (r64_c rfl) rc_10_232 ?_
      cases h
      exact go_lret dX10_cell_26 rfl rfl
  · rw [if_neg c3] at h
    obtain ⟨g19, h⟩ := gd h
    cases h
    have k2 := l_C_existingCell (d + 238) n e σ x1 x2 x3 x4 _ k2
    simp only [if_neg c3] at k2 ⊢
    exact go_callX (kc := 77) (Mc := mt77) [pvR 10 0 0, pvI x1, pvI x2, pvI x3, pvI x4] [] (Or.inl rfl) dX10_cell_6 rm_10_205 mtE77 rfl rfl rfl (Nat.le_of_ble_eq_true rfl) (Or.inr ⟨_, _, 0, rfl, Or.inl rfl⟩) rfl c3 g19 k2 rfl

set_option maxRecDepth 10000 in
theorem l_C_cellAnew (d : Nat) (n e : Nat) (σ : Hp) (x1 : Int) (x2 : Int) (x3 : Int) (x4 : Int) (r : Nat × Int × Hp) (h : f_C_cellAnew σ x1 x2 x3 x4 = some r) : Ev (d + 242) 131 [pvR 10 0 0, pvI x1, pvI x2, pvI x3, pvI x4] (true, n, e, σ) (r.1, if r.1 = 0 then some (pvL r.2.1) else none, true, n, e + if r.1 = 0 then 0 else 1, r.2.2) := by
  unfold f_C_cellAnew at h
  refine Ev.of mtE131 rfl rfl rfl rfl ?_
  show Go none (Ev (d + 241)) mt131 0 [some (pvR 10 0 0), some (pvI x1), some (pvI x2), some (pvI x3), some (pvI x4), none] [] (true, n, e, σ) (r.1, if r.1 = 0 then some (pvL r.2.1) else none, true, n, e + if r.1 = 0 then 0 else 1, r.2.2)
  refine go_aload_n (pc' := 1) dX10_cellAnew_0 rfl rfl (Nat.le_of_ble_eq_true rfl) ?_
  refine go_iload_n (pc' := 2) dX10_cellAnew_1 rfl rfl ?_
  refine go_iload_n (pc' := 3) dX10_cellAnew_2 rfl rfl ?_
  refine go_iload_n (pc' := 4) dX10_cellAnew_3 rfl rfl ?_
  refine go_iload (pc' := 6) dX10_cellAnew_4 rfl rfl ?_
  obtain ⟨v1, k2, h⟩ := bd h
  by_cases c3 : v1.1 = 0
  · rw [if_pos c3] at h
    have k2 := l_C_existingCell (d + 238) n e σ x1 x2 x3 x4 _ k2
    rw [c3] at k2
    refine go_call (kc := 77) (Mc := mt77) (v := some (pvI v1.2)) (w' := (true, n, e, σ)) (pc' := 9) (st' := [pvI v1.2]) [pvR 10 0 0, pvI x1, pvI x2, pvI x3, pvI x4] [] (Or.inl rfl) dX10_cellAnew_6 rfl rm_10_205 mtE77 rfl rfl rfl (Nat.le_of_ble_eq_true rfl) (Or.inr ⟨_, _, 0, rfl, Or.inl rfl⟩) k2 rfl ?_
    refine go_istore (L' := [some (pvR 10 0 0), some (pvI x1), some (pvI x2), some (pvI x3), some (pvI x4), some (pvI v1.2)]) (pc' := 11) dX10_cellAnew_9 rfl (Nat.le_of_ble_eq_true rfl) rfl ?_
    refine go_aload_n (pc' := 12) dX10_cellAnew_11 rfl rfl (Nat.le_of_ble_eq_true rfl) ?_
    refine go_getR (k' := 6) (L0 := 0) (P' := 116) (pc' := 15) dX10_cellAnew_12 rfl rf_10_51 rfl rfl (by omega) ?_
    refine go_iload (pc' := 17) dX10_cellAnew_15 rfl rfl ?_
    obtain ⟨v4, k5, h⟩ := bd h
    have k5 := l_R_begins (d + 240) n e σ x4 _ k5
    refine go_call (kc := 108) (Mc := mt108) (v := none) (w' := (true, n, e, v4)) (pc' := 20) (st' := []) [pvR 6 0 116, pvI x4] [] (Or.inl rfl) dX10_cellAnew_17 rfl rm_10_242 mtE108 rfl rfl rfl (Nat.le_of_ble_eq_true rfl) (Or.inr ⟨_, _, 116, rfl, Or.inl rfl⟩) k5 rfl ?_
    refine go_aload_n (pc' := 21) dX10_cellAnew_20 rfl rfl (Nat.le_of_ble_eq_true rfl) ?_
    refine go_getR (k' := 6) (L0 := 0) (P' := 116) (pc' := 24) dX10_cellAnew_21 rfl rf_10_51 rfl rfl (by omega) ?_
    refine go_iload (pc' := 26) dX10_cellAnew_24 rfl rfl ?_
    obtain ⟨v6, k7, h⟩ := bd h
    have k7 := l_R_asAsked (d + 0) n e v4 v1.2 _ k7
    refine go_call (kc := 109) (Mc := mt109) (v := some (pvL v6.1)) (w' := (true, n, e, v6.2)) (pc' := 29) (st' := [pvL v6.1]) [pvR 6 0 116, pvI v1.2] [] (Or.inl rfl) dX10_cellAnew_26 rfl rm_10_245 mtE109 rfl rfl rfl (Nat.le_of_ble_eq_true rfl) (Or.inr ⟨_, _, 116, rfl, Or.inl rfl⟩) k7 rfl ?_
    cases h
    exact go_lret dX10_cellAnew_29 rfl rfl
  · rw [if_neg c3] at h
    obtain ⟨g8, h⟩ := gd h
    cases h
    have k2 := l_C_existingCell (d + 238) n e σ x1 x2 x3 x4 _ k2
    simp only [if_neg c3] at k2 ⊢
    exact go_callX (kc := 77) (Mc := mt77) [pvR 10 0 0, pvI x1, pvI x2, pvI x3, pvI x4] [] (Or.inl rfl) dX10_cellAnew_6 rm_10_205 mtE77 rfl rfl rfl (Nat.le_of_ble_eq_true rfl) (Or.inr ⟨_, _, 0, rfl, Or.inl rfl⟩) rfl c3 g8 k2 rfl

set_option maxRecDepth 10000 in
theorem l_C_at (d : Nat) (n e : Nat) (σ : Hp) (x1 : Int) (x2 : Int) (r : Nat × Int × Hp) (h : f_C_at σ x1 x2 = some r) : Ev (d + 3) 133 [pvR 10 0 0, pvI x1, pvI x2] (true, n, e, σ) (r.1, if r.1 = 0 then some (pvI r.2.1) else none, true, n, e + if r.1 = 0 then 0 else 1, r.2.2) := by
  unfold f_C_at at h
  refine Ev.of mtE133 rfl rfl rfl rfl ?_
  show Go none (Ev (d + 2)) mt133 0 [some (pvR 10 0 0), some (pvI x1), some (pvI x2), none, none] [] (true, n, e, σ) (r.1, if r.1 = 0 then some (pvI r.2.1) else none, true, n, e + if r.1 = 0 then 0 else 1, r.2.2)
  refine go_aload_n (pc' := 1) dX10_at_0 rfl rfl (Nat.le_of_ble_eq_true rfl) ?_
  refine go_iload_n (pc' := 2) dX10_at_1 rfl rfl ?_
  obtain ⟨v1, k2, h⟩ := bd h
  by_cases c3 : v1.1 = 0
  · rw [if_pos c3] at h
    have k2 := l_C_existing (d + 0) n e σ x1 _ k2
    rw [c3] at k2
    refine go_call (kc := 20) (Mc := mt20) (v := some (pvR 0 0 v1.2)) (w' := (true, n, e, σ)) (pc' := 5) (st' := [pvR 0 0 v1.2]) [pvR 10 0 0, pvI x1] [] (Or.inl rfl) dX10_at_2 rfl rm_10_62 mtE20 rfl rfl rfl (Nat.le_of_ble_eq_true rfl) (Or.inr ⟨_, _, 0, rfl, Or.inl rfl⟩) k2 rfl ?_
    refine go_astore_n (L' := [some (pvR 10 0 0), some (pvI x1), some (pvI x2), some (pvR 0 0 v1.2), none]) (pc' := 6) dX10_at_5 rfl (Nat.le_of_ble_eq_true rfl) (Nat.le_of_ble_eq_true rfl) rfl ?_
    refine go_aload_n (pc' := 7) dX10_at_6 rfl rfl (Nat.le_of_ble_eq_true rfl) ?_
    refine go_iload_n (pc' := 8) dX10_at_7 rfl rfl ?_
    obtain ⟨v4, k5, h⟩ := bd h
    by_cases c6 : v4 = 0
    · rw [if_pos c6] at h
      have k5 := l_C_needMember (d + 0) n e σ v1.2 x2 _ k5
      rw [c6] at k5
      refine go_call (kc := 22) (Mc := mt22) (v := none) (w' := (true, n, e, σ)) (pc' := 11) (st' := []) [pvR 0 0 v1.2, pvI x2] [] (Or.inr (Or.inl rfl)) dX10_at_8 rfl rm_10_66 mtE22 rfl rfl rfl (Nat.le_of_ble_eq_true rfl) (Or.inl (by decide)) k5 rfl ?_
      refine go_aload_n (pc' := 12) dX10_at_11 rfl rfl (Nat.le_of_ble_eq_true rfl) ?_
      refine go_getI (pc' := 15) dX10_at_12 rfl rf_10_253 rfl ?_
      refine go_istore (L' := [some (pvR 10 0 0), some (pvI x1), some (pvI x2), some (pvR 0 0 v1.2), some (pvI (σ v1.2 1))]) (pc' := 17) dX10_at_15 rfl (Nat.le_of_ble_eq_true rfl) rfl ?_
      refine go_aload_n (pc' := 18) dX10_at_17 rfl rfl (Nat.le_of_ble_eq_true rfl) ?_
      refine go_iload_n (pc' := 19) dX10_at_18 rfl rfl ?_
      refine go_putI (pc' := 22) dX10_at_19 rfl rf_10_253 rfl ?_
      refine go_iload (pc' := 24) dX10_at_22 rfl rfl ?_
      cases h
      exact go_iret dX10_at_24 rfl rfl
    · rw [if_neg c6] at h
      obtain ⟨g7, h⟩ := gd h
      cases h
      have k5 := l_C_needMember (d + 0) n e σ v1.2 x2 _ k5
      simp only [if_neg c6] at k5 ⊢
      exact go_callX (kc := 22) (Mc := mt22) [pvR 0 0 v1.2, pvI x2] [] (Or.inr rfl) dX10_at_8 rm_10_66 mtE22 rfl rfl rfl (Nat.le_of_ble_eq_true rfl) (Or.inl (by decide)) rfl c6 g7 k5 rfl
  · rw [if_neg c3] at h
    obtain ⟨g8, h⟩ := gd h
    cases h
    have k2 := l_C_existing (d + 0) n e σ x1 _ k2
    simp only [if_neg c3] at k2 ⊢
    exact go_callX (kc := 20) (Mc := mt20) [pvR 10 0 0, pvI x1] [] (Or.inl rfl) dX10_at_2 rm_10_62 mtE20 rfl rfl rfl (Nat.le_of_ble_eq_true rfl) (Or.inr ⟨_, _, 0, rfl, Or.inl rfl⟩) rfl c3 g8 k2 rfl

set_option maxRecDepth 10000 in
theorem l_D_isLeaf_2 (d : Nat) (n : Nat) (e : Nat) (σ : Hp) (p : Nat) (x1 : Int) : ∀ (F : Nat) (y1 : Int) (r : Int), f_D_isLeaf_2 σ p x1 F y1 = some r → Go none (Ev (d + 2)) mt138 2 [some (pvR 0 0 p), some (pvI x1), some (pvI y1)] [] (true, n, e, σ) (0, some (pvI r), true, n, e, σ) := by
  intro F
  induction F with
  | zero =>
    intro _ _ h
    rw [f_D_isLeaf_2] at h
    cases h
  | succ F ih =>
    intro y1 r h
    rw [f_D_isLeaf_2] at h
    refine go_iload_n (pc' := 3) dX0_isLeaf_2 rfl rfl ?_
    refine go_aload_n (pc' := 4) dX0_isLeaf_3 rfl rfl (Nat.le_of_ble_eq_true rfl) ?_
    refine go_getI (pc' := 7) dX0_isLeaf_4 rfl rf_0_9 rfl ?_
    refine go_icmp_ge (t := 27) (pc' := 10) dX0_isLeaf_7 rfl rfl (fun c8 => ?_) (fun c8 => ?_)
    · rw [if_pos (show (σ p 0) ≤ y1 from c8)] at h
      refine go_iconst (pc' := 28) dX0_isLeaf_27 rfl (r32_c rfl) ?_
      obtain ⟨g2, h⟩ := gd h
      cases h
      exact go_zret dX0_isLeaf_28 rfl g2 rfl
    · rw [if_neg (show ¬ ((σ p 0) ≤ y1) from c8)] at h
      refine go_aload_n (pc' := 11) dX0_isLeaf_10 rfl rfl (Nat.le_of_ble_eq_true rfl) ?_
      refine go_iload_n (pc' := 12) dX0_isLeaf_11 rfl rfl ?_
      obtain ⟨v3, k4, h⟩ := bd h
      have k4 := l_D_parentOf (d + 0) n e σ p y1 _ k4
      refine go_call (kc := 50) (Mc := mt50) (v := some (pvI v3)) (w' := (true, n, e, σ)) (pc' := 15) (st' := [pvI v3]) [pvR 0 0 p, pvI y1] [] (Or.inl rfl) dX0_isLeaf_12 rfl rm_0_124 mtE50 rfl rfl rfl (Nat.le_of_ble_eq_true rfl) (Or.inr ⟨_, _, p, rfl, Or.inl rfl⟩) k4 rfl ?_
      refine go_iload_n (pc' := 16) dX0_isLeaf_15 rfl rfl ?_
      refine go_icmp_ne (t := 21) (pc' := 19) dX0_isLeaf_16 rfl rfl (fun c7 => ?_) (fun c7 => ?_)
      · rw [if_pos (show v3 ≠ x1 from c7)] at h
        obtain ⟨g5, h⟩ := gd h
        refine go_iinc (L' := [some (pvR 0 0 p), some (pvI x1), some (pvI (y1 + 1))]) (pc' := 24) dX0_isLeaf_21 rfl rfl g5 rfl ?_
        refine go_goto (t := 2) dX0_isLeaf_24 rfl ?_
        exact ih (y1 + 1) _ h
      · rw [if_neg (show ¬ (v3 ≠ x1) from c7)] at h
        refine go_iconst (pc' := 20) dX0_isLeaf_19 rfl (r32_c rfl) ?_
        obtain ⟨g6, h⟩ := gd h
        cases h
        exact go_zret dX0_isLeaf_20 rfl g6 rfl

set_option maxRecDepth 10000 in
theorem l_D_isLeaf (d : Nat) (n e : Nat) (σ : Hp) (p : Nat) (x1 : Int) (r : Int) (h : f_D_isLeaf σ p x1 = some r) : Ev (d + 3) 138 [pvR 0 0 p, pvI x1] (true, n, e, σ) (0, some (pvI r), true, n, e, σ) := by
  unfold f_D_isLeaf at h
  refine Ev.of mtE138 rfl rfl rfl rfl ?_
  show Go none (Ev (d + 2)) mt138 0 [some (pvR 0 0 p), some (pvI x1), none] [] (true, n, e, σ) (0, some (pvI r), true, n, e, σ)
  refine go_iconst (pc' := 1) dX0_isLeaf_0 rfl (r32_c rfl) ?_
  refine go_istore_n (L' := [some (pvR 0 0 p), some (pvI x1), some (pvI 1)]) (pc' := 2) dX0_isLeaf_1 rfl (Nat.le_of_ble_eq_true rfl) rfl ?_
  exact l_D_isLeaf_2 d n e σ p x1 zFuel 1 _ h

set_option maxRecDepth 10000 in
theorem l_D_isAsked (d : Nat) (n e : Nat) (σ : Hp) (p : Nat) (x1 : Int) (x2 : Int) (x3 : Int) (r : Int) (h : f_D_isAsked σ p x1 x2 x3 = some r) : Ev (d + 4) 137 [pvR 0 0 p, pvI x1, pvI x2, pvI x3] (true, n, e, σ) (0, some (pvI r), true, n, e, σ) := by
  unfold f_D_isAsked at h
  refine Ev.of mtE137 rfl rfl rfl rfl ?_
  show Go none (Ev (d + 3)) mt137 0 [some (pvR 0 0 p), some (pvI x1), some (pvI x2), some (pvI x3)] [] (true, n, e, σ) (0, some (pvI r), true, n, e, σ)
  refine go_iload_n (pc' := 1) dX0_isAsked_0 rfl rfl ?_
  refine go_if_ne (t := 20) (pc' := 4) dX0_isAsked_1 rfl rfl (fun c26 => ?_) (fun c26 => ?_)
  · rw [if_pos (show x1 ≠ 0 from c26)] at h
    refine go_iload_n (pc' := 21) dX0_isAsked_20 rfl rfl ?_
    refine go_iconst (pc' := 22) dX0_isAsked_21 rfl (r32_c rfl) ?_
    refine go_icmp_ne (t := 41) (pc' := 25) dX0_isAsked_22 rfl rfl (fun c20 => ?_) (fun c20 => ?_)
    · rw [if_pos (show x1 ≠ 2 from c20)] at h
      refine go_aload_n (pc' := 42) dX0_isAsked_41 rfl rfl (Nat.le_of_ble_eq_true rfl) ?_
      refine go_iload_n (pc' := 43) dX0_isAsked_42 rfl rfl ?_
      obtain ⟨v1, k2, h⟩ := bd h
      have k2 := l_D_has (d + 2) n e σ p x2 _ k2
      refine go_call (kc := 23) (Mc := mt23) (v := some (pvI v1)) (w' := (true, n, e, σ)) (pc' := 46) (st' := [pvI v1]) [pvR 0 0 p, pvI x2] [] (Or.inl rfl) dX0_isAsked_43 rfl rm_0_65 mtE23 rfl rfl rfl (Nat.le_of_ble_eq_true rfl) (Or.inr ⟨_, _, p, rfl, Or.inl rfl⟩) k2 rfl ?_
      obtain ⟨j3, k4, h⟩ := bd h
      have k4J : Go none (Ev (d + 3)) mt137 80 [some (pvR 0 0 p), some (pvI x1), some (pvI x2), some (pvI x3)] [pvI j3] (true, n, e, σ) (0, some (pvI r), true, n, e, σ) := by
        obtain ⟨g13, h⟩ := gd h
        cases h
        exact go_zret dX0_isAsked_80 rfl g13 rfl
      clear h
      have h := k4
      refine go_if_eq (t := 79) (pc' := 49) dX0_isAsked_46 rfl rfl (fun c14 => ?_) (fun c14 => ?_)
      · rw [if_pos (show v1 = 0 from c14)] at h
        refine go_iconst (pc' := 80) dX0_isAsked_79 rfl (r32_c rfl) ?_
        cases h
        exact k4J
      · rw [if_neg (show ¬ (v1 = 0) from c14)] at h
        refine go_aload_n (pc' := 50) dX0_isAsked_49 rfl rfl (Nat.le_of_ble_eq_true rfl) ?_
        refine go_iload_n (pc' := 51) dX0_isAsked_50 rfl rfl ?_
        obtain ⟨v5, k6, h⟩ := bd h
        have k6 := l_D_isLeaf (d + 0) n e σ p x3 _ k6
        refine go_call (kc := 138) (Mc := mt138) (v := some (pvI v5)) (w' := (true, n, e, σ)) (pc' := 54) (st' := [pvI v5]) [pvR 0 0 p, pvI x3] [] (Or.inl rfl) dX0_isAsked_51 rfl rm_0_121 mtE138 rfl rfl rfl (Nat.le_of_ble_eq_true rfl) (Or.inr ⟨_, _, p, rfl, Or.inl rfl⟩) k6 rfl ?_
        refine go_if_eq (t := 79) (pc' := 57) dX0_isAsked_54 rfl rfl (fun c12 => ?_) (fun c12 => ?_)
        · rw [if_pos (show v5 = 0 from c12)] at h
          refine go_iconst (pc' := 80) dX0_isAsked_79 rfl (r32_c rfl) ?_
          cases h
          exact k4J
        · rw [if_neg (show ¬ (v5 = 0) from c12)] at h
          refine go_aload_n (pc' := 58) dX0_isAsked_57 rfl rfl (Nat.le_of_ble_eq_true rfl) ?_
          refine go_getR (k' := 16) (L0 := 13) (P' := (p + 16)) (pc' := 61) dX0_isAsked_58 rfl rf_0_62 rfl rfl (by omega) ?_
          refine go_bipush (pc' := 63) dX0_isAsked_61 rfl (r32_c rfl) (by decide) ?_
          obtain ⟨g7, h⟩ := gd h
          refine go_rald (pc' := 64) dX0_isAsked_63 rfl g7 ?_
          refine go_iload_n (pc' := 65) dX0_isAsked_64 rfl rfl ?_
          refine go_bipush (pc' := 67) dX0_isAsked_65 rfl (r32_c rfl) (by decide) ?_
          obtain ⟨g8, h⟩ := gd h
          refine go_imul (pc' := 68) dX0_isAsked_67 rfl g8 ?_
          refine go_iload_n (pc' := 69) dX0_isAsked_68 rfl rfl ?_
          obtain ⟨g9, h⟩ := gd h
          refine go_iadd (pc' := 70) dX0_isAsked_69 rfl g9 ?_
          obtain ⟨g10, h⟩ := gd h
          refine go_iald (pc' := 71) dX0_isAsked_70 rfl g10 ?_
          refine go_iconst (pc' := 72) dX0_isAsked_71 rfl (r32_c rfl) ?_
          refine go_icmp_eq (t := 79) (pc' := 75) dX0_isAsked_72 rfl rfl (fun c11 => ?_) (fun c11 => ?_)
          · rw [if_pos (show (σ ((p + 16) + 1 + Int.toNat 12) ((x3 * 12) + x2)) = 2 from c11)] at h
            refine go_iconst (pc' := 80) dX0_isAsked_79 rfl (r32_c rfl) ?_
            cases h
            exact k4J
          · rw [if_neg (show ¬ ((σ ((p + 16) + 1 + Int.toNat 12) ((x3 * 12) + x2)) = 2) from c11)] at h
            refine go_iconst (pc' := 76) dX0_isAsked_75 rfl (r32_c rfl) ?_
            refine go_goto (t := 80) dX0_isAsked_76 rfl ?_
            cases h
            exact k4J
    · rw [if_neg (show ¬ (x1 ≠ 2) from c20)] at h
      refine go_aload_n (pc' := 26) dX0_isAsked_25 rfl rfl (Nat.le_of_ble_eq_true rfl) ?_
      refine go_getR (k' := 12) (L0 := 12) (P' := (p + 14)) (pc' := 29) dX0_isAsked_26 rfl rf_0_54 rfl rfl (by omega) ?_
      refine go_iload_n (pc' := 30) dX0_isAsked_29 rfl rfl ?_
      obtain ⟨g15, h⟩ := gd h
      refine go_iald (pc' := 31) dX0_isAsked_30 rfl g15 ?_
      refine go_iload_n (pc' := 32) dX0_isAsked_31 rfl rfl ?_
      obtain ⟨j16, k17, h⟩ := bd h
      have k17J : Go none (Ev (d + 3)) mt137 40 [some (pvR 0 0 p), some (pvI x1), some (pvI x2), some (pvI x3)] [pvI j16] (true, n, e, σ) (0, some (pvI r), true, n, e, σ) := by
        obtain ⟨g18, h⟩ := gd h
        cases h
        exact go_zret dX0_isAsked_40 rfl g18 rfl
      clear h
      have h := k17
      refine go_icmp_ne (t := 39) (pc' := 35) dX0_isAsked_32 rfl rfl (fun c19 => ?_) (fun c19 => ?_)
      · rw [if_pos (show (σ (p + 14) x3) ≠ x2 from c19)] at h
        refine go_iconst (pc' := 40) dX0_isAsked_39 rfl (r32_c rfl) ?_
        cases h
        exact k17J
      · rw [if_neg (show ¬ ((σ (p + 14) x3) ≠ x2) from c19)] at h
        refine go_iconst (pc' := 36) dX0_isAsked_35 rfl (r32_c rfl) ?_
        refine go_goto (t := 40) dX0_isAsked_36 rfl ?_
        cases h
        exact k17J
  · rw [if_neg (show ¬ (x1 ≠ 0) from c26)] at h
    refine go_aload_n (pc' := 5) dX0_isAsked_4 rfl rfl (Nat.le_of_ble_eq_true rfl) ?_
    refine go_getR (k' := 12) (L0 := 12) (P' := (p + 13)) (pc' := 8) dX0_isAsked_5 rfl rf_0_51 rfl rfl (by omega) ?_
    refine go_iload_n (pc' := 9) dX0_isAsked_8 rfl rfl ?_
    obtain ⟨g21, h⟩ := gd h
    refine go_iald (pc' := 10) dX0_isAsked_9 rfl g21 ?_
    refine go_iload_n (pc' := 11) dX0_isAsked_10 rfl rfl ?_
    obtain ⟨j22, k23, h⟩ := bd h
    have k23J : Go none (Ev (d + 3)) mt137 19 [some (pvR 0 0 p), some (pvI x1), some (pvI x2), some (pvI x3)] [pvI j22] (true, n, e, σ) (0, some (pvI r), true, n, e, σ) := by
      obtain ⟨g24, h⟩ := gd h
      cases h
      exact go_zret dX0_isAsked_19 rfl g24 rfl
    clear h
    have h := k23
    refine go_icmp_ne (t := 18) (pc' := 14) dX0_isAsked_11 rfl rfl (fun c25 => ?_) (fun c25 => ?_)
    · rw [if_pos (show (σ (p + 13) x3) ≠ x2 from c25)] at h
      refine go_iconst (pc' := 19) dX0_isAsked_18 rfl (r32_c rfl) ?_
      cases h
      exact k23J
    · rw [if_neg (show ¬ ((σ (p + 13) x3) ≠ x2) from c25)] at h
      refine go_iconst (pc' := 15) dX0_isAsked_14 rfl (r32_c rfl) ?_
      refine go_goto (t := 19) dX0_isAsked_15 rfl ?_
      cases h
      exact k23J

set_option maxRecDepth 10000 in
theorem l_D_pickAll_7 (d : Nat) (n : Nat) (e : Nat) (p : Nat) (x1 : Int) (x2 : Int) {out : Out} : ∀ (F : Nat) (y1 : Int) (σ2 : Hp) (j17 : Int × Hp), f_D_pickAll_7 p x1 x2 F y1 σ2 = some j17 → Go none (Ev (d + 4)) mt136 68 [some (pvR 0 0 p), some (pvI x1), some (pvI x2), some (pvI j17.1)] [] (true, n, e, j17.2) out → Go none (Ev (d + 4)) mt136 7 [some (pvR 0 0 p), some (pvI x1), some (pvI x2), some (pvI y1)] [] (true, n, e, σ2) out := by
  intro F
  induction F with
  | zero =>
    intro _ _ _ h
    intro _
    rw [f_D_pickAll_7] at h
    cases h
  | succ F ih =>
    intro y1 σ2 j17 h hx
    rw [f_D_pickAll_7] at h
    refine go_iload_n (pc' := 8) dX0_pickAll_7 rfl rfl ?_
    refine go_aload_n (pc' := 9) dX0_pickAll_8 rfl rfl (Nat.le_of_ble_eq_true rfl) ?_
    refine go_getI (pc' := 12) dX0_pickAll_9 rfl rf_0_9 rfl ?_
    refine go_icmp_ge (t := 68) (pc' := 15) dX0_pickAll_12 rfl rfl (fun c16 => ?_) (fun c16 => ?_)
    · rw [if_pos (show (σ2 p 0) ≤ y1 from c16)] at h
      cases h
      exact hx
    · rw [if_neg (show ¬ ((σ2 p 0) ≤ y1) from c16)] at h
      refine go_aload_n (pc' := 16) dX0_pickAll_15 rfl rfl (Nat.le_of_ble_eq_true rfl) ?_
      refine go_getR (k' := 14) (L0 := 12) (P' := (p + 15)) (pc' := 19) dX0_pickAll_16 rfl rf_0_57 rfl rfl (by omega) ?_
      refine go_iload_n (pc' := 20) dX0_pickAll_19 rfl rfl ?_
      obtain ⟨g3, h⟩ := gd h
      refine go_zald (pc' := 21) dX0_pickAll_20 rfl g3 ?_
      obtain ⟨j4, k5, h⟩ := bd h
      have k5J : Go none (Ev (d + 4)) mt136 62 [some (pvR 0 0 p), some (pvI x1), some (pvI x2), some (pvI y1)] [] (true, n, e, j4) out := by
        obtain ⟨g14, h⟩ := gd h
        refine go_iinc (L' := [some (pvR 0 0 p), some (pvI x1), some (pvI x2), some (pvI (y1 + 1))]) (pc' := 65) dX0_pickAll_62 rfl rfl g14 rfl ?_
        refine go_goto (t := 7) dX0_pickAll_65 rfl ?_
        exact ih (y1 + 1) j4 _ h hx
      clear h
      have h := k5
      refine go_if_eq (t := 62) (pc' := 24) dX0_pickAll_21 rfl rfl (fun c15 => ?_) (fun c15 => ?_)
      · rw [if_pos (show (σ2 (p + 15) y1) = 0 from c15)] at h
        cases h
        exact k5J
      · rw [if_neg (show ¬ ((σ2 (p + 15) y1) = 0) from c15)] at h
        refine go_aload_n (pc' := 25) dX0_pickAll_24 rfl rfl (Nat.le_of_ble_eq_true rfl) ?_
        refine go_iload_n (pc' := 26) dX0_pickAll_25 rfl rfl ?_
        obtain ⟨v6, k7, h⟩ := bd h
        have k7 := l_D_isPlain (d + 2) n e σ2 p y1 _ k7
        refine go_call (kc := 25) (Mc := mt25) (v := some (pvI v6)) (w' := (true, n, e, σ2)) (pc' := 29) (st' := [pvI v6]) [pvR 0 0 p, pvI y1] [] (Or.inl rfl) dX0_pickAll_26 rfl rm_0_69 mtE25 rfl rfl rfl (Nat.le_of_ble_eq_true rfl) (Or.inr ⟨_, _, p, rfl, Or.inl rfl⟩) k7 rfl ?_
        refine go_if_eq (t := 62) (pc' := 32) dX0_pickAll_29 rfl rfl (fun c13 => ?_) (fun c13 => ?_)
        · rw [if_pos (show v6 = 0 from c13)] at h
          cases h
          exact k5J
        · rw [if_neg (show ¬ (v6 = 0) from c13)] at h
          refine go_aload_n (pc' := 33) dX0_pickAll_32 rfl rfl (Nat.le_of_ble_eq_true rfl) ?_
          refine go_iload_n (pc' := 34) dX0_pickAll_33 rfl rfl ?_
          refine go_iload_n (pc' := 35) dX0_pickAll_34 rfl rfl ?_
          refine go_iload_n (pc' := 36) dX0_pickAll_35 rfl rfl ?_
          obtain ⟨v8, k9, h⟩ := bd h
          have k9 := l_D_isAsked (d + 0) n e σ2 p x1 x2 y1 _ k9
          refine go_call (kc := 137) (Mc := mt137) (v := some (pvI v8)) (w' := (true, n, e, σ2)) (pc' := 39) (st' := [pvI v8]) [pvR 0 0 p, pvI x1, pvI x2, pvI y1] [] (Or.inl rfl) dX0_pickAll_36 rfl rm_0_117 mtE137 rfl rfl rfl (Nat.le_of_ble_eq_true rfl) (Or.inr ⟨_, _, p, rfl, Or.inl rfl⟩) k9 rfl ?_
          refine go_if_eq (t := 62) (pc' := 42) dX0_pickAll_39 rfl rfl (fun c12 => ?_) (fun c12 => ?_)
          · rw [if_pos (show v8 = 0 from c12)] at h
            cases h
            exact k5J
          · rw [if_neg (show ¬ (v8 = 0) from c12)] at h
            refine go_aload_n (pc' := 43) dX0_pickAll_42 rfl rfl (Nat.le_of_ble_eq_true rfl) ?_
            refine go_getR (k' := 12) (L0 := 12) (P' := (p + 12)) (pc' := 46) dX0_pickAll_43 rfl rf_0_48 rfl rfl (by omega) ?_
            refine go_aload_n (pc' := 47) dX0_pickAll_46 rfl rfl (Nat.le_of_ble_eq_true rfl) ?_
            refine go_getI (pc' := 50) dX0_pickAll_47 rfl rf_0_114 rfl ?_
            refine go_iload_n (pc' := 51) dX0_pickAll_50 rfl rfl ?_
            obtain ⟨g10, h⟩ := gd h
            refine go_iast (pc' := 52) dX0_pickAll_51 rfl g10 ?_
            refine go_aload_n (pc' := 53) dX0_pickAll_52 rfl rfl (Nat.le_of_ble_eq_true rfl) ?_
            refine go_dup (pc' := 54) dX0_pickAll_53 rfl (Nat.ne_of_beq_eq_false rfl) ?_
            refine go_getI (pc' := 57) dX0_pickAll_54 rfl rf_0_114 rfl ?_
            refine go_iconst (pc' := 58) dX0_pickAll_57 rfl (r32_c rfl) ?_
            obtain ⟨g11, h⟩ := gd h
            refine go_iadd (pc' := 59) dX0_pickAll_58 rfl g11 ?_
            refine go_putI (pc' := 62) dX0_pickAll_59 rfl rf_0_114 rfl ?_
            cases h
            exact k5J

set_option maxRecDepth 10000 in
theorem l_D_pickAll (d : Nat) (n e : Nat) (σ : Hp) (p : Nat) (x1 : Int) (x2 : Int) (r : Hp) (h : f_D_pickAll σ p x1 x2 = some r) : Ev (d + 5) 136 [pvR 0 0 p, pvI x1, pvI x2] (true, n, e, σ) (0, none, true, n, e, r) := by
  unfold f_D_pickAll at h
  refine Ev.of mtE136 rfl rfl rfl rfl ?_
  show Go none (Ev (d + 4)) mt136 0 [some (pvR 0 0 p), some (pvI x1), some (pvI x2), none] [] (true, n, e, σ) (0, none, true, n, e, r)
  refine go_aload_n (pc' := 1) dX0_pickAll_0 rfl rfl (Nat.le_of_ble_eq_true rfl) ?_
  refine go_iconst (pc' := 2) dX0_pickAll_1 rfl (r32_c rfl) ?_
  refine go_putI (pc' := 5) dX0_pickAll_2 rfl rf_0_114 rfl ?_
  refine go_iconst (pc' := 6) dX0_pickAll_5 rfl (r32_c rfl) ?_
  refine go_istore_n (L' := [some (pvR 0 0 p), some (pvI x1), some (pvI x2), some (pvI 0)]) (pc' := 7) dX0_pickAll_6 rfl (Nat.le_of_ble_eq_true rfl) rfl ?_
  obtain ⟨j18, k19, h⟩ := bd h
  refine l_D_pickAll_7 d n e p x1 x2 zFuel 0 (hset σ p 2 0) _ k19 ?_
  cases h
  exact go_vret dX0_pickAll_68 rfl rfl

set_option maxRecDepth 10000 in
theorem l_D_pickedAt (d : Nat) (n e : Nat) (σ : Hp) (p : Nat) (x1 : Int) (r : Int) (h : f_D_pickedAt σ p x1 = some r) : Ev (d + 1) 140 [pvR 0 0 p, pvI x1] (true, n, e, σ) (0, some (pvI r), true, n, e, σ) := by
  unfold f_D_pickedAt at h
  refine Ev.of mtE140 rfl rfl rfl rfl ?_
  show Go none (Ev (d + 0)) mt140 0 [some (pvR 0 0 p), some (pvI x1)] [] (true, n, e, σ) (0, some (pvI r), true, n, e, σ)
  refine go_iload_n (pc' := 1) dX0_pickedAt_0 rfl rfl ?_
  obtain ⟨j1, k2, h⟩ := bd h
  have k2J : Go none (Ev (d + 0)) mt140 28 [some (pvR 0 0 p), some (pvI x1)] [pvI j1] (true, n, e, σ) (0, some (pvI r), true, n, e, σ) := by
    cases h
    exact go_iret dX0_pickedAt_28 rfl rfl
  clear h
  have h := k2
  refine go_if_lt (t := 27) (pc' := 4) dX0_pickedAt_1 rfl rfl (fun c6 => ?_) (fun c6 => ?_)
  · rw [if_pos (show x1 < 0 from c6)] at h
    refine go_iconst (pc' := 28) dX0_pickedAt_27 rfl (r32_c rfl) ?_
    cases h
    exact k2J
  · rw [if_neg (show ¬ (x1 < 0) from c6)] at h
    refine go_iload_n (pc' := 5) dX0_pickedAt_4 rfl rfl ?_
    refine go_aload_n (pc' := 6) dX0_pickedAt_5 rfl rfl (Nat.le_of_ble_eq_true rfl) ?_
    refine go_getI (pc' := 9) dX0_pickedAt_6 rfl rf_0_114 rfl ?_
    refine go_icmp_ge (t := 27) (pc' := 12) dX0_pickedAt_9 rfl rfl (fun c5 => ?_) (fun c5 => ?_)
    · rw [if_pos (show (σ p 2) ≤ x1 from c5)] at h
      refine go_iconst (pc' := 28) dX0_pickedAt_27 rfl (r32_c rfl) ?_
      cases h
      exact k2J
    · rw [if_neg (show ¬ ((σ p 2) ≤ x1) from c5)] at h
      refine go_iload_n (pc' := 13) dX0_pickedAt_12 rfl rfl ?_
      refine go_bipush (pc' := 15) dX0_pickedAt_13 rfl (r32_c rfl) (by decide) ?_
      refine go_icmp_ge (t := 27) (pc' := 18) dX0_pickedAt_15 rfl rfl (fun c4 => ?_) (fun c4 => ?_)
      · rw [if_pos (show 12 ≤ x1 from c4)] at h
        refine go_iconst (pc' := 28) dX0_pickedAt_27 rfl (r32_c rfl) ?_
        cases h
        exact k2J
      · rw [if_neg (show ¬ (12 ≤ x1) from c4)] at h
        refine go_aload_n (pc' := 19) dX0_pickedAt_18 rfl rfl (Nat.le_of_ble_eq_true rfl) ?_
        refine go_getR (k' := 12) (L0 := 12) (P' := (p + 12)) (pc' := 22) dX0_pickedAt_19 rfl rf_0_48 rfl rfl (by omega) ?_
        refine go_iload_n (pc' := 23) dX0_pickedAt_22 rfl rfl ?_
        obtain ⟨g3, h⟩ := gd h
        refine go_iald (pc' := 24) dX0_pickedAt_23 rfl g3 ?_
        refine go_goto (t := 28) dX0_pickedAt_24 rfl ?_
        cases h
        exact k2J

set_option maxRecDepth 10000 in
theorem l_S_chosenCell (d : Nat) (n e : Nat) (σ : Hp) (r : Int) (h : f_S_chosenCell σ = some r) : Ev (d + 1) 141 [pvR 7 0 1] (true, n, e, σ) (0, some (pvI r), true, n, e, σ) := by
  unfold f_S_chosenCell at h
  refine Ev.of mtE141 rfl rfl rfl rfl ?_
  show Go none (Ev (d + 0)) mt141 0 [some (pvR 7 0 1)] [] (true, n, e, σ) (0, some (pvI r), true, n, e, σ)
  refine go_aload_n (pc' := 1) dX7_chosenCell_0 rfl rfl (Nat.le_of_ble_eq_true rfl) ?_
  refine go_getR (k' := 0) (L0 := 0) (P' := 2) (pc' := 4) dX7_chosenCell_1 rfl rf_7_12 rfl rfl (by omega) ?_
  refine go_getI (pc' := 7) dX7_chosenCell_4 rfl rf_7_67 rfl ?_
  refine go_sipush (pc' := 10) dX7_chosenCell_7 rfl (r32_c rfl) (by decide) ?_
  obtain ⟨g1, h⟩ := gd h
  refine go_imul (pc' := 11) dX7_chosenCell_10 rfl g1 ?_
  refine go_aload_n (pc' := 12) dX7_chosenCell_11 rfl rfl (Nat.le_of_ble_eq_true rfl) ?_
  refine go_getR (k' := 0) (L0 := 0) (P' := 32) (pc' := 15) dX7_chosenCell_12 rfl rf_7_18 rfl rfl (by omega) ?_
  refine go_getI (pc' := 18) dX7_chosenCell_15 rfl rf_7_67 rfl ?_
  refine go_bipush (pc' := 20) dX7_chosenCell_18 rfl (r32_c rfl) (by decide) ?_
  obtain ⟨g2, h⟩ := gd h
  refine go_imul (pc' := 21) dX7_chosenCell_20 rfl g2 ?_
  obtain ⟨g3, h⟩ := gd h
  refine go_iadd (pc' := 22) dX7_chosenCell_21 rfl g3 ?_
  refine go_aload_n (pc' := 23) dX7_chosenCell_22 rfl rfl (Nat.le_of_ble_eq_true rfl) ?_
  refine go_getR (k' := 0) (L0 := 0) (P' := 62) (pc' := 26) dX7_chosenCell_23 rfl rf_7_21 rfl rfl (by omega) ?_
  refine go_getI (pc' := 29) dX7_chosenCell_26 rfl rf_7_67 rfl ?_
  obtain ⟨g4, h⟩ := gd h
  refine go_iadd (pc' := 30) dX7_chosenCell_29 rfl g4 ?_
  cases h
  exact go_iret dX7_chosenCell_30 rfl rfl

set_option maxRecDepth 10000 in
theorem l_R_rank_3 (d : Nat) (n : Nat) (e : Nat) (p1 : Nat) (x2 : Int) (x3 : Int) (x4 : Int) {out : Out} : ∀ (F : Nat) (y1 : Int) (σ2 : Hp) (j14 : Int × Hp), f_R_rank_3 p1 x4 F y1 σ2 = some j14 → Go none (Ev (d + 0)) mt142 61 [some (pvR 6 0 116), some (pvR 0 0 p1), some (pvI x2), some (pvI x3), some (pvL x4), none, some (pvI j14.1)] [] (true, n, e, j14.2) out → Go none (Ev (d + 0)) mt142 3 [some (pvR 6 0 116), some (pvR 0 0 p1), some (pvI x2), some (pvI x3), some (pvL x4), none, some (pvI y1)] [] (true, n, e, σ2) out := by
  intro F
  induction F with
  | zero =>
    intro _ _ _ h
    intro _
    rw [f_R_rank_3] at h
    cases h
  | succ F ih =>
    intro y1 σ2 j14 h hx
    rw [f_R_rank_3] at h
    refine go_iload (pc' := 5) dX6_rank_3 rfl rfl ?_
    refine go_if_le (t := 61) (pc' := 8) dX6_rank_5 rfl rfl (fun c13 => ?_) (fun c13 => ?_)
    · rw [if_pos (show y1 ≤ 0 from c13)] at h
      cases h
      exact hx
    · rw [if_neg (show ¬ (y1 ≤ 0) from c13)] at h
      refine go_aload_n (pc' := 9) dX6_rank_8 rfl rfl (Nat.le_of_ble_eq_true rfl) ?_
      refine go_getR (k' := 13) (L0 := 12) (P' := 124) (pc' := 12) dX6_rank_9 rfl rf_6_34 rfl rfl (by omega) ?_
      refine go_iload (pc' := 14) dX6_rank_12 rfl rfl ?_
      refine go_iconst (pc' := 15) dX6_rank_14 rfl (r32_c rfl) ?_
      obtain ⟨g3, h⟩ := gd h
      refine go_isub (pc' := 16) dX6_rank_15 rfl g3 ?_
      obtain ⟨g4, h⟩ := gd h
      refine go_lald (pc' := 17) dX6_rank_16 rfl g4 ?_
      refine go_lload (pc' := 19) dX6_rank_17 rfl rfl ?_
      refine go_lcmp (pc' := 20) dX6_rank_19 rfl ?_
      refine go_if_ge (t := 61) (pc' := 23) dX6_rank_20 rfl rfl (fun c12 => ?_) (fun c12 => ?_)
      · rw [if_pos (show 0 ≤ (lcm (σ2 124 (y1 - 1)) x4) from c12)] at h
        cases h
        exact hx
      · rw [if_neg (show ¬ (0 ≤ (lcm (σ2 124 (y1 - 1)) x4)) from c12)] at h
        refine go_aload_n (pc' := 24) dX6_rank_23 rfl rfl (Nat.le_of_ble_eq_true rfl) ?_
        refine go_getR (k' := 13) (L0 := 12) (P' := 124) (pc' := 27) dX6_rank_24 rfl rf_6_34 rfl rfl (by omega) ?_
        refine go_iload (pc' := 29) dX6_rank_27 rfl rfl ?_
        refine go_aload_n (pc' := 30) dX6_rank_29 rfl rfl (Nat.le_of_ble_eq_true rfl) ?_
        refine go_getR (k' := 13) (L0 := 12) (P' := 124) (pc' := 33) dX6_rank_30 rfl rf_6_34 rfl rfl (by omega) ?_
        refine go_iload (pc' := 35) dX6_rank_33 rfl rfl ?_
        refine go_iconst (pc' := 36) dX6_rank_35 rfl (r32_c rfl) ?_
        obtain ⟨g5, h⟩ := gd h
        refine go_isub (pc' := 37) dX6_rank_36 rfl g5 ?_
        obtain ⟨g6, h⟩ := gd h
        refine go_lald (pc' := 38) dX6_rank_37 rfl g6 ?_
        obtain ⟨g7, h⟩ := gd h
        refine go_last (pc' := 39) dX6_rank_38 rfl g7 ?_
        refine go_aload_n (pc' := 40) dX6_rank_39 rfl rfl (Nat.le_of_ble_eq_true rfl) ?_
        refine go_getR (k' := 12) (L0 := 12) (P' := (p1 + 12)) (pc' := 43) dX6_rank_40 rfl rf_6_253 rfl rfl (by omega) ?_
        refine go_iload (pc' := 45) dX6_rank_43 rfl rfl ?_
        refine go_aload_n (pc' := 46) dX6_rank_45 rfl rfl (Nat.le_of_ble_eq_true rfl) ?_
        refine go_getR (k' := 12) (L0 := 12) (P' := (p1 + 12)) (pc' := 49) dX6_rank_46 rfl rf_6_253 rfl rfl (by omega) ?_
        refine go_iload (pc' := 51) dX6_rank_49 rfl rfl ?_
        refine go_iconst (pc' := 52) dX6_rank_51 rfl (r32_c rfl) ?_
        obtain ⟨g8, h⟩ := gd h
        refine go_isub (pc' := 53) dX6_rank_52 rfl g8 ?_
        obtain ⟨g9, h⟩ := gd h
        refine go_iald (pc' := 54) dX6_rank_53 rfl g9 ?_
        obtain ⟨g10, h⟩ := gd h
        refine go_iast (pc' := 55) dX6_rank_54 rfl g10 ?_
        obtain ⟨g11, h⟩ := gd h
        refine go_iinc (L' := [some (pvR 6 0 116), some (pvR 0 0 p1), some (pvI x2), some (pvI x3), some (pvL x4), none, some (pvI (y1 + (-1)))]) (pc' := 58) dX6_rank_55 rfl rfl g11 rfl ?_
        refine go_goto (t := 3) dX6_rank_58 rfl ?_
        exact ih (y1 + (-1)) (hset (hset σ2 124 y1 (σ2 124 (y1 - 1))) (p1 + 12) y1 ((hset σ2 124 y1 (σ2 124 (y1 - 1))) (p1 + 12) (y1 - 1))) _ h hx

set_option maxRecDepth 10000 in
theorem l_R_rank (d : Nat) (n e : Nat) (σ : Hp) (p1 : Nat) (x2 : Int) (x3 : Int) (x4 : Int) (r : Hp) (h : f_R_rank σ p1 x2 x3 x4 = some r) : Ev (d + 1) 142 [pvR 6 0 116, pvR 0 0 p1, pvI x2, pvI x3, pvL x4] (true, n, e, σ) (0, none, true, n, e, r) := by
  unfold f_R_rank at h
  refine Ev.of mtE142 rfl rfl rfl rfl ?_
  show Go none (Ev (d + 0)) mt142 0 [some (pvR 6 0 116), some (pvR 0 0 p1), some (pvI x2), some (pvI x3), some (pvL x4), none, none] [] (true, n, e, σ) (0, none, true, n, e, r)
  refine go_iload_n (pc' := 1) dX6_rank_0 rfl rfl ?_
  refine go_istore (L' := [some (pvR 6 0 116), some (pvR 0 0 p1), some (pvI x2), some (pvI x3), some (pvL x4), none, some (pvI x2)]) (pc' := 3) dX6_rank_1 rfl (Nat.le_of_ble_eq_true rfl) rfl ?_
  obtain ⟨j15, k16, h⟩ := bd h
  refine l_R_rank_3 d n e p1 x2 x3 x4 zFuel x2 σ _ k16 ?_
  refine go_aload_n (pc' := 62) dX6_rank_61 rfl rfl (Nat.le_of_ble_eq_true rfl) ?_
  refine go_getR (k' := 13) (L0 := 12) (P' := 124) (pc' := 65) dX6_rank_62 rfl rf_6_34 rfl rfl (by omega) ?_
  refine go_iload (pc' := 67) dX6_rank_65 rfl rfl ?_
  refine go_lload (pc' := 69) dX6_rank_67 rfl rfl ?_
  obtain ⟨g17, h⟩ := gd h
  refine go_last (pc' := 70) dX6_rank_69 rfl g17 ?_
  refine go_aload_n (pc' := 71) dX6_rank_70 rfl rfl (Nat.le_of_ble_eq_true rfl) ?_
  refine go_getR (k' := 12) (L0 := 12) (P' := (p1 + 12)) (pc' := 74) dX6_rank_71 rfl rf_6_253 rfl rfl (by omega) ?_
  refine go_iload (pc' := 76) dX6_rank_74 rfl rfl ?_
  refine go_iload_n (pc' := 77) dX6_rank_76 rfl rfl ?_
  obtain ⟨g18, h⟩ := gd h
  refine go_iast (pc' := 78) dX6_rank_77 rfl g18 ?_
  cases h
  exact go_vret dX6_rank_78 rfl rfl

