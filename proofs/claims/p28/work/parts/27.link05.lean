/-! ===== links: each function is what its bytecode does ===== -/
set_option maxRecDepth 10000 in
theorem l_L_same_2 (d : Nat) (n : Nat) (e : Nat) (σ : Hp) (p1 : Nat) (p2 : Nat) : ∀ (F : Nat) (y1 : Int) (r : Int), f_L_same_2 σ p1 p2 F y1 = some r → Go none (Ev (d + 0)) mt122 2 [some (pvR 12 60 p1), some (pvR 12 60 p2), some (pvI y1)] [] (true, n, e, σ) (0, some (pvI r), true, n, e, σ) := by
  intro F
  induction F with
  | zero =>
    intro _ _ h
    rw [f_L_same_2] at h
    cases h
  | succ F ih =>
    intro y1 r h
    rw [f_L_same_2] at h
    refine go_iload_n (pc' := 3) dL_same_2 rfl rfl ?_
    refine go_bipush (pc' := 5) dL_same_3 rfl (r32_c rfl) (by decide) ?_
    refine go_icmp_ge (t := 25) (pc' := 8) dL_same_5 rfl rfl (fun c8 => ?_) (fun c8 => ?_)
    · rw [if_pos (show 60 ≤ y1 from c8)] at h
      refine go_iconst (pc' := 26) dL_same_25 rfl (r32_c rfl) ?_
      obtain ⟨g2, h⟩ := gd h
      cases h
      exact go_zret dL_same_26 rfl g2 rfl
    · rw [if_neg (show ¬ (60 ≤ y1) from c8)] at h
      refine go_aload_n (pc' := 9) dL_same_8 rfl rfl (Nat.le_of_ble_eq_true rfl) ?_
      refine go_iload_n (pc' := 10) dL_same_9 rfl rfl ?_
      obtain ⟨g3, h⟩ := gd h
      refine go_iald (pc' := 11) dL_same_10 rfl g3 ?_
      refine go_aload_n (pc' := 12) dL_same_11 rfl rfl (Nat.le_of_ble_eq_true rfl) ?_
      refine go_iload_n (pc' := 13) dL_same_12 rfl rfl ?_
      obtain ⟨g4, h⟩ := gd h
      refine go_iald (pc' := 14) dL_same_13 rfl g4 ?_
      refine go_icmp_eq (t := 19) (pc' := 17) dL_same_14 rfl rfl (fun c7 => ?_) (fun c7 => ?_)
      · rw [if_pos (show (σ p1 y1) = (σ p2 y1) from c7)] at h
        obtain ⟨g5, h⟩ := gd h
        refine go_iinc (L' := [some (pvR 12 60 p1), some (pvR 12 60 p2), some (pvI (y1 + 1))]) (pc' := 22) dL_same_19 rfl rfl g5 rfl ?_
        refine go_goto (t := 2) dL_same_22 rfl ?_
        exact ih (y1 + 1) _ h
      · rw [if_neg (show ¬ ((σ p1 y1) = (σ p2 y1)) from c7)] at h
        refine go_iconst (pc' := 18) dL_same_17 rfl (r32_c rfl) ?_
        obtain ⟨g6, h⟩ := gd h
        cases h
        exact go_zret dL_same_18 rfl g6 rfl

set_option maxRecDepth 10000 in
theorem l_L_same (d : Nat) (n e : Nat) (σ : Hp) (p1 : Nat) (p2 : Nat) (r : Int) (h : f_L_same σ p1 p2 = some r) : Ev (d + 1) 122 [pvR 12 60 p1, pvR 12 60 p2] (true, n, e, σ) (0, some (pvI r), true, n, e, σ) := by
  unfold f_L_same at h
  refine Ev.of mtE122 rfl rfl rfl rfl ?_
  show Go none (Ev (d + 0)) mt122 0 [some (pvR 12 60 p1), some (pvR 12 60 p2), none] [] (true, n, e, σ) (0, some (pvI r), true, n, e, σ)
  refine go_iconst (pc' := 1) dL_same_0 rfl (r32_c rfl) ?_
  refine go_istore_n (L' := [some (pvR 12 60 p1), some (pvR 12 60 p2), some (pvI 0)]) (pc' := 2) dL_same_1 rfl (Nat.le_of_ble_eq_true rfl) rfl ?_
  exact l_L_same_2 d n e σ p1 p2 zFuel 0 _ h

set_option maxRecDepth 10000 in
theorem l_K_find_2 (d : Nat) (n : Nat) (e : Nat) (σ : Hp) (x1 : Int) (x2 : Int) : ∀ (F : Nat) (y1 : Int) (r : Int), f_K_find_2 σ x1 x2 F y1 = some r → Go none (Ev (d + 0)) mt125 2 [some (pvR 3 0 108), some (pvI x1), some (pvI x2), some (pvI y1)] [] (true, n, e, σ) (0, some (pvI r), true, n, e, σ) := by
  intro F
  induction F with
  | zero =>
    intro _ _ h
    rw [f_K_find_2] at h
    cases h
  | succ F ih =>
    intro y1 r h
    rw [f_K_find_2] at h
    refine go_iload_n (pc' := 3) dX3_find_2 rfl rfl ?_
    refine go_aload_n (pc' := 4) dX3_find_3 rfl rfl (Nat.le_of_ble_eq_true rfl) ?_
    refine go_getI (pc' := 7) dX3_find_4 rfl rf_3_22 rfl ?_
    refine go_icmp_ge (t := 38) (pc' := 10) dX3_find_7 rfl rfl (fun c8 => ?_) (fun c8 => ?_)
    · rw [if_pos (show (σ 108 0) ≤ y1 from c8)] at h
      refine go_iconst (pc' := 39) dX3_find_38 rfl (r32_c rfl) ?_
      cases h
      exact go_iret dX3_find_39 rfl rfl
    · rw [if_neg (show ¬ ((σ 108 0) ≤ y1) from c8)] at h
      refine go_aload_n (pc' := 11) dX3_find_10 rfl rfl (Nat.le_of_ble_eq_true rfl) ?_
      refine go_getR (k' := 12) (L0 := 20) (P' := 109) (pc' := 14) dX3_find_11 rfl rf_3_9 rfl rfl (by omega) ?_
      refine go_iload_n (pc' := 15) dX3_find_14 rfl rfl ?_
      obtain ⟨g2, h⟩ := gd h
      refine go_iald (pc' := 16) dX3_find_15 rfl g2 ?_
      refine go_iload_n (pc' := 17) dX3_find_16 rfl rfl ?_
      refine go_icmp_ne (t := 32) (pc' := 20) dX3_find_17 rfl rfl (fun c7 => ?_) (fun c7 => ?_)
      · rw [if_pos (show (σ 109 y1) ≠ x1 from c7)] at h
        obtain ⟨g3, h⟩ := gd h
        refine go_iinc (L' := [some (pvR 3 0 108), some (pvI x1), some (pvI x2), some (pvI (y1 + 1))]) (pc' := 35) dX3_find_32 rfl rfl g3 rfl ?_
        refine go_goto (t := 2) dX3_find_35 rfl ?_
        exact ih (y1 + 1) _ h
      · rw [if_neg (show ¬ ((σ 109 y1) ≠ x1) from c7)] at h
        refine go_aload_n (pc' := 21) dX3_find_20 rfl rfl (Nat.le_of_ble_eq_true rfl) ?_
        refine go_getR (k' := 12) (L0 := 20) (P' := 110) (pc' := 24) dX3_find_21 rfl rf_3_15 rfl rfl (by omega) ?_
        refine go_iload_n (pc' := 25) dX3_find_24 rfl rfl ?_
        obtain ⟨g4, h⟩ := gd h
        refine go_iald (pc' := 26) dX3_find_25 rfl g4 ?_
        refine go_iload_n (pc' := 27) dX3_find_26 rfl rfl ?_
        refine go_icmp_ne (t := 32) (pc' := 30) dX3_find_27 rfl rfl (fun c6 => ?_) (fun c6 => ?_)
        · rw [if_pos (show (σ 110 y1) ≠ x2 from c6)] at h
          obtain ⟨g5, h⟩ := gd h
          refine go_iinc (L' := [some (pvR 3 0 108), some (pvI x1), some (pvI x2), some (pvI (y1 + 1))]) (pc' := 35) dX3_find_32 rfl rfl g5 rfl ?_
          refine go_goto (t := 2) dX3_find_35 rfl ?_
          exact ih (y1 + 1) _ h
        · rw [if_neg (show ¬ ((σ 110 y1) ≠ x2) from c6)] at h
          refine go_iload_n (pc' := 31) dX3_find_30 rfl rfl ?_
          cases h
          exact go_iret dX3_find_31 rfl rfl

set_option maxRecDepth 10000 in
theorem l_K_find (d : Nat) (n e : Nat) (σ : Hp) (x1 : Int) (x2 : Int) (r : Int) (h : f_K_find σ x1 x2 = some r) : Ev (d + 1) 125 [pvR 3 0 108, pvI x1, pvI x2] (true, n, e, σ) (0, some (pvI r), true, n, e, σ) := by
  unfold f_K_find at h
  refine Ev.of mtE125 rfl rfl rfl rfl ?_
  show Go none (Ev (d + 0)) mt125 0 [some (pvR 3 0 108), some (pvI x1), some (pvI x2), none] [] (true, n, e, σ) (0, some (pvI r), true, n, e, σ)
  refine go_iconst (pc' := 1) dX3_find_0 rfl (r32_c rfl) ?_
  refine go_istore_n (L' := [some (pvR 3 0 108), some (pvI x1), some (pvI x2), some (pvI 0)]) (pc' := 2) dX3_find_1 rfl (Nat.le_of_ble_eq_true rfl) rfl ?_
  exact l_K_find_2 d n e σ x1 x2 zFuel 0 _ h

set_option maxRecDepth 10000 in
theorem l_K_valueAt (d : Nat) (n e : Nat) (σ : Hp) (x1 : Int) (r : Int) (h : f_K_valueAt σ x1 = some r) : Ev (d + 2) 126 [pvR 3 0 108, pvI x1] (true, n, e, σ) (0, some (pvL r), true, n, e, σ) := by
  unfold f_K_valueAt at h
  refine Ev.of mtE126 rfl rfl rfl rfl ?_
  show Go none (Ev (d + 1)) mt126 0 [some (pvR 3 0 108), some (pvI x1)] [] (true, n, e, σ) (0, some (pvL r), true, n, e, σ)
  refine go_aload_n (pc' := 1) dX3_valueAt_0 rfl rfl (Nat.le_of_ble_eq_true rfl) ?_
  refine go_iload_n (pc' := 2) dX3_valueAt_1 rfl rfl ?_
  obtain ⟨v1, k2, h⟩ := bd h
  have k2 := l_K_has (d + 0) n e σ x1 _ k2
  refine go_call (kc := 67) (Mc := mt67) (v := some (pvI v1)) (w' := (true, n, e, σ)) (pc' := 5) (st' := [pvI v1]) [pvR 3 0 108, pvI x1] [] (Or.inl rfl) dX3_valueAt_2 rfl rm_3_26 mtE67 rfl rfl rfl (Nat.le_of_ble_eq_true rfl) (Or.inr ⟨_, _, 108, rfl, Or.inl rfl⟩) k2 rfl ?_
  obtain ⟨j3, k4, h⟩ := bd h
  have k4J : Go none (Ev (d + 1)) mt126 20 [some (pvR 3 0 108), some (pvI x1)] [pvL j3] (true, n, e, σ) (0, some (pvL r), true, n, e, σ) := by
    cases h
    exact go_lret dX3_valueAt_20 rfl rfl
  clear h
  have h := k4
  refine go_if_eq (t := 17) (pc' := 8) dX3_valueAt_5 rfl rfl (fun c6 => ?_) (fun c6 => ?_)
  · rw [if_pos (show v1 = 0 from c6)] at h
    refine go_ldc2 (pc' := 20) dX3_valueAt_17 rfl (r64_c rfl) rc_3_30 ?_
    cases h
    exact k4J
  · rw [if_neg (show ¬ (v1 = 0) from c6)] at h
    refine go_aload_n (pc' := 9) dX3_valueAt_8 rfl rfl (Nat.le_of_ble_eq_true rfl) ?_
    refine go_getR (k' := 13) (L0 := 20) (P' := 111) (pc' := 12) dX3_valueAt_9 rfl rf_3_18 rfl rfl (by omega) ?_
    refine go_iload_n (pc' := 13) dX3_valueAt_12 rfl rfl ?_
    obtain ⟨g5, h⟩ := gd h
    refine go_lald (pc' := 14) dX3_valueAt_13 rfl g5 ?_
    refine go_goto (t := 20) dX3_valueAt_14 rfl ?_
    cases h
    exact k4J

set_option maxRecDepth 10000 in
theorem l_K_keep_12 (d : Nat) (n : Nat) (e : Nat) (x1 : Int) (x2 : Int) (x3 : Int) {out : Out} : ∀ (F : Nat) (y3 : Int) (σ4 : Hp) (j10 : Int × Hp), f_K_keep_12 F y3 σ4 = some j10 → Go none (Ev (d + 2)) mt127 35 [some (pvR 3 0 108), some (pvI x1), some (pvI x2), some (pvL x3), none, some (pvI j10.1)] [] (true, n, e, j10.2) out → Go none (Ev (d + 2)) mt127 12 [some (pvR 3 0 108), some (pvI x1), some (pvI x2), some (pvL x3), none, some (pvI y3)] [] (true, n, e, σ4) out := by
  intro F
  induction F with
  | zero =>
    intro _ _ _ h
    intro _
    rw [f_K_keep_12] at h
    cases h
  | succ F ih =>
    intro y3 σ4 j10 h hx
    rw [f_K_keep_12] at h
    refine go_iload (pc' := 14) dX3_keep_12 rfl rfl ?_
    refine go_bipush (pc' := 16) dX3_keep_14 rfl (r32_c rfl) (by decide) ?_
    refine go_icmp_ge (t := 35) (pc' := 19) dX3_keep_16 rfl rfl (fun c9 => ?_) (fun c9 => ?_)
    · rw [if_pos (show 20 ≤ y3 from c9)] at h
      cases h
      exact hx
    · rw [if_neg (show ¬ (20 ≤ y3) from c9)] at h
      refine go_aload_n (pc' := 20) dX3_keep_19 rfl rfl (Nat.le_of_ble_eq_true rfl) ?_
      refine go_iload (pc' := 22) dX3_keep_20 rfl rfl ?_
      refine go_iload (pc' := 24) dX3_keep_22 rfl rfl ?_
      refine go_iconst (pc' := 25) dX3_keep_24 rfl (r32_c rfl) ?_
      obtain ⟨g5, h⟩ := gd h
      refine go_isub (pc' := 26) dX3_keep_25 rfl g5 ?_
      obtain ⟨v6, k7, h⟩ := bd h
      have k7 := l_K_shift (d + 0) n e σ4 y3 (y3 - 1) _ k7
      refine go_call (kc := 76) (Mc := mt76) (v := none) (w' := (true, n, e, v6)) (pc' := 29) (st' := []) [pvR 3 0 108, pvI y3, pvI (y3 - 1)] [] (Or.inl rfl) dX3_keep_26 rfl rm_3_32 mtE76 rfl rfl rfl (Nat.le_of_ble_eq_true rfl) (Or.inr ⟨_, _, 108, rfl, Or.inl rfl⟩) k7 rfl ?_
      obtain ⟨g8, h⟩ := gd h
      refine go_iinc (L' := [some (pvR 3 0 108), some (pvI x1), some (pvI x2), some (pvL x3), none, some (pvI (y3 + 1))]) (pc' := 32) dX3_keep_29 rfl rfl g8 rfl ?_
      refine go_goto (t := 12) dX3_keep_32 rfl ?_
      exact ih (y3 + 1) v6 _ h hx

set_option maxRecDepth 10000 in
theorem l_K_keep (d : Nat) (n e : Nat) (σ : Hp) (x1 : Int) (x2 : Int) (x3 : Int) (r : Hp) (h : f_K_keep σ x1 x2 x3 = some r) : Ev (d + 3) 127 [pvR 3 0 108, pvI x1, pvI x2, pvL x3] (true, n, e, σ) (0, none, true, n, e, r) := by
  unfold f_K_keep at h
  refine Ev.of mtE127 rfl rfl rfl rfl ?_
  show Go none (Ev (d + 2)) mt127 0 [some (pvR 3 0 108), some (pvI x1), some (pvI x2), some (pvL x3), none, none] [] (true, n, e, σ) (0, none, true, n, e, r)
  refine go_aload_n (pc' := 1) dX3_keep_0 rfl rfl (Nat.le_of_ble_eq_true rfl) ?_
  refine go_getI (pc' := 4) dX3_keep_1 rfl rf_3_22 rfl ?_
  refine go_bipush (pc' := 6) dX3_keep_4 rfl (r32_c rfl) (by decide) ?_
  obtain ⟨j1, k2, h⟩ := bd h
  have k2J : Go none (Ev (d + 2)) mt127 41 [some (pvR 3 0 108), some (pvI x1), some (pvI x2), some (pvL x3), none, none] [] (true, n, e, j1) (0, none, true, n, e, r) := by
    refine go_aload_n (pc' := 42) dX3_keep_41 rfl rfl (Nat.le_of_ble_eq_true rfl) ?_
    refine go_getR (k' := 12) (L0 := 20) (P' := 109) (pc' := 45) dX3_keep_42 rfl rf_3_9 rfl rfl (by omega) ?_
    refine go_aload_n (pc' := 46) dX3_keep_45 rfl rfl (Nat.le_of_ble_eq_true rfl) ?_
    refine go_getI (pc' := 49) dX3_keep_46 rfl rf_3_22 rfl ?_
    refine go_iload_n (pc' := 50) dX3_keep_49 rfl rfl ?_
    obtain ⟨g13, h⟩ := gd h
    refine go_iast (pc' := 51) dX3_keep_50 rfl g13 ?_
    refine go_aload_n (pc' := 52) dX3_keep_51 rfl rfl (Nat.le_of_ble_eq_true rfl) ?_
    refine go_getR (k' := 12) (L0 := 20) (P' := 110) (pc' := 55) dX3_keep_52 rfl rf_3_15 rfl rfl (by omega) ?_
    refine go_aload_n (pc' := 56) dX3_keep_55 rfl rfl (Nat.le_of_ble_eq_true rfl) ?_
    refine go_getI (pc' := 59) dX3_keep_56 rfl rf_3_22 rfl ?_
    refine go_iload_n (pc' := 60) dX3_keep_59 rfl rfl ?_
    obtain ⟨g14, h⟩ := gd h
    refine go_iast (pc' := 61) dX3_keep_60 rfl g14 ?_
    refine go_aload_n (pc' := 62) dX3_keep_61 rfl rfl (Nat.le_of_ble_eq_true rfl) ?_
    refine go_getR (k' := 13) (L0 := 20) (P' := 111) (pc' := 65) dX3_keep_62 rfl rf_3_18 rfl rfl (by omega) ?_
    refine go_aload_n (pc' := 66) dX3_keep_65 rfl rfl (Nat.le_of_ble_eq_true rfl) ?_
    refine go_getI (pc' := 69) dX3_keep_66 rfl rf_3_22 rfl ?_
    refine go_lload_n (pc' := 70) dX3_keep_69 rfl rfl ?_
    obtain ⟨g15, h⟩ := gd h
    refine go_last (pc' := 71) dX3_keep_70 rfl g15 ?_
    refine go_aload_n (pc' := 72) dX3_keep_71 rfl rfl (Nat.le_of_ble_eq_true rfl) ?_
    refine go_dup (pc' := 73) dX3_keep_72 rfl (Nat.ne_of_beq_eq_false rfl) ?_
    refine go_getI (pc' := 76) dX3_keep_73 rfl rf_3_22 rfl ?_
    refine go_iconst (pc' := 77) dX3_keep_76 rfl (r32_c rfl) ?_
    obtain ⟨g16, h⟩ := gd h
    refine go_iadd (pc' := 78) dX3_keep_77 rfl g16 ?_
    refine go_putI (pc' := 81) dX3_keep_78 rfl rf_3_22 rfl ?_
    cases h
    exact go_vret dX3_keep_81 rfl rfl
  clear h
  have h := k2
  refine go_icmp_lt (t := 41) (pc' := 9) dX3_keep_6 rfl rfl (fun c17 => ?_) (fun c17 => ?_)
  · rw [if_pos (show (σ 108 0) < 20 from c17)] at h
    cases h
    exact k2J
  · rw [if_neg (show ¬ ((σ 108 0) < 20) from c17)] at h
    refine go_iconst (pc' := 10) dX3_keep_9 rfl (r32_c rfl) ?_
    refine go_istore (L' := [some (pvR 3 0 108), some (pvI x1), some (pvI x2), some (pvL x3), none, some (pvI 1)]) (pc' := 12) dX3_keep_10 rfl (Nat.le_of_ble_eq_true rfl) rfl ?_
    obtain ⟨j11, k12, h⟩ := bd h
    refine l_K_keep_12 d n e x1 x2 x3 zFuel 1 σ _ k12 ?_
    refine go_aload_n (pc' := 36) dX3_keep_35 rfl rfl (Nat.le_of_ble_eq_true rfl) ?_
    refine go_bipush (pc' := 38) dX3_keep_36 rfl (r32_c rfl) (by decide) ?_
    refine go_putI (pc' := 41) dX3_keep_38 rfl rf_3_22 rfl ?_
    cases h
    exact go_sub k2J ⟨Or.inr rfl, Or.inr rfl, Or.inr rfl, Or.inr rfl, Or.inr rfl, Or.inl rfl, trivial⟩

set_option maxRecDepth 10000 in
theorem l_C_cell (d : Nat) (n e : Nat) (σ : Hp) (x1 : Int) (x2 : Int) (x3 : Int) (x4 : Int) (r : Nat × Int × Hp) (h : f_C_cell σ x1 x2 x3 x4 = some r) : Ev (d + 242) 124 [pvR 10 0 0, pvI x1, pvI x2, pvI x3, pvI x4] (true, n, e, σ) (r.1, if r.1 = 0 then some (pvL r.2.1) else none, true, n, e + if r.1 = 0 then 0 else 1, r.2.2) := by
  unfold f_C_cell at h
  refine Ev.of mtE124 rfl rfl rfl rfl ?_
  show Go none (Ev (d + 241)) mt124 0 [some (pvR 10 0 0), some (pvI x1), some (pvI x2), some (pvI x3), some (pvI x4), none, none, none, none] [] (true, n, e, σ) (r.1, if r.1 = 0 then some (pvL r.2.1) else none, true, n, e + if r.1 = 0 then 0 else 1, r.2.2)
  refine go_aload_n (pc' := 1) dX10_cell_0 rfl rfl (Nat.le_of_ble_eq_true rfl) ?_
  refine go_iload_n (pc' := 2) dX10_cell_1 rfl rfl ?_
  refine go_iload_n (pc' := 3) dX10_cell_2 rfl rfl ?_
  refine go_iload_n (pc' := 4) dX10_cell_3 rfl rfl ?_
  refine go_iload (pc' := 6) dX10_cell_4 rfl rfl ?_
  obtain ⟨v1, k2, h⟩ := bd h
  by_cases c3 : v1.1 = 0
  · rw [if_pos c3] at h
    have k2 := l_C_existingCell (d + 238) n e σ x1 x2 x3 x4 _ k2
    rw [c3] at k2
    refine go_call (kc := 59) (Mc := mt59) (v := some (pvI v1.2)) (w' := (true, n, e, σ)) (pc' := 9) (st' := [pvI v1.2]) [pvR 10 0 0, pvI x1, pvI x2, pvI x3, pvI x4] [] (Or.inl rfl) dX10_cell_6 rfl rm_10_205 mtE59 rfl rfl rfl (Nat.le_of_ble_eq_true rfl) (Or.inr ⟨_, _, 0, rfl, Or.inl rfl⟩) k2 rfl ?_
    refine go_istore (L' := [some (pvR 10 0 0), some (pvI x1), some (pvI x2), some (pvI x3), some (pvI x4), some (pvI v1.2), none, none, none]) (pc' := 11) dX10_cell_9 rfl (Nat.le_of_ble_eq_true rfl) rfl ?_
    refine go_aload_n (pc' := 12) dX10_cell_11 rfl rfl (Nat.le_of_ble_eq_true rfl) ?_
    refine go_getR (k' := 7) (L0 := 0) (P' := 1) (pc' := 15) dX10_cell_12 rfl rf_10_12 rfl rfl (by omega) ?_
    refine go_iload (pc' := 17) dX10_cell_15 rfl rfl ?_
    obtain ⟨v4, k5, h⟩ := bd h
    have k5 := l_S_isSeen (d + 239) n e σ v1.2 _ k5
    refine go_call (kc := 74) (Mc := mt74) (v := some (pvI v4)) (w' := (true, n, e, σ)) (pc' := 20) (st' := [pvI v4]) [pvR 7 0 1, pvI v1.2] [] (Or.inl rfl) dX10_cell_17 rfl rm_10_231 mtE74 rfl rfl rfl (Nat.le_of_ble_eq_true rfl) (Or.inr ⟨_, _, 1, rfl, Or.inl rfl⟩) k5 rfl ?_
    refine go_if_ne (t := 27) (pc' := 23) dX10_cell_20 rfl rfl (fun c18 => ?_) (fun c18 => ?_)
    · rw [if_pos (show v4 ≠ 0 from c18)] at h
      refine go_aload_n (pc' := 28) dX10_cell_27 rfl rfl (Nat.le_of_ble_eq_true rfl) ?_
      refine go_getR (k' := 3) (L0 := 0) (P' := 108) (pc' := 31) dX10_cell_28 rfl rf_10_35 rfl rfl (by omega) ?_
      refine go_iload (pc' := 33) dX10_cell_31 rfl rfl ?_
      refine go_iload (pc' := 35) dX10_cell_33 rfl rfl ?_
      obtain ⟨v6, k7, h⟩ := bd h
      have k7 := l_K_find (d + 240) n e σ v1.2 x4 _ k7
      refine go_call (kc := 125) (Mc := mt125) (v := some (pvI v6)) (w' := (true, n, e, σ)) (pc' := 38) (st' := [pvI v6]) [pvR 3 0 108, pvI v1.2, pvI x4] [] (Or.inl rfl) dX10_cell_35 rfl rm_10_234 mtE125 rfl rfl rfl (Nat.le_of_ble_eq_true rfl) (Or.inr ⟨_, _, 108, rfl, Or.inl rfl⟩) k7 rfl ?_
      refine go_istore (L' := [some (pvR 10 0 0), some (pvI x1), some (pvI x2), some (pvI x3), some (pvI x4), some (pvI v1.2), some (pvI v6), none, none]) (pc' := 40) dX10_cell_38 rfl (Nat.le_of_ble_eq_true rfl) rfl ?_
      refine go_iload (pc' := 42) dX10_cell_40 rfl rfl ?_
      refine go_iconst (pc' := 43) dX10_cell_42 rfl (r32_c rfl) ?_
      refine go_icmp_eq (t := 69) (pc' := 46) dX10_cell_43 rfl rfl (fun c17 => ?_) (fun c17 => ?_)
      · rw [if_pos (show v6 = (-1) from c17)] at h
        refine go_aload_n (pc' := 70) dX10_cell_69 rfl rfl (Nat.le_of_ble_eq_true rfl) ?_
        refine go_getR (k' := 6) (L0 := 0) (P' := 116) (pc' := 73) dX10_cell_70 rfl rf_10_51 rfl rfl (by omega) ?_
        refine go_iload (pc' := 75) dX10_cell_73 rfl rfl ?_
        obtain ⟨v8, k9, h⟩ := bd h
        have k9 := l_R_begins (d + 240) n e σ x4 _ k9
        refine go_call (kc := 89) (Mc := mt89) (v := none) (w' := (true, n, e, v8)) (pc' := 78) (st' := []) [pvR 6 0 116, pvI x4] [] (Or.inl rfl) dX10_cell_75 rfl rm_10_242 mtE89 rfl rfl rfl (Nat.le_of_ble_eq_true rfl) (Or.inr ⟨_, _, 116, rfl, Or.inl rfl⟩) k9 rfl ?_
        refine go_aload_n (pc' := 79) dX10_cell_78 rfl rfl (Nat.le_of_ble_eq_true rfl) ?_
        refine go_getR (k' := 6) (L0 := 0) (P' := 116) (pc' := 82) dX10_cell_79 rfl rf_10_51 rfl rfl (by omega) ?_
        refine go_iload (pc' := 84) dX10_cell_82 rfl rfl ?_
        obtain ⟨v10, k11, h⟩ := bd h
        have k11 := l_R_asAsked (d + 0) n e v8 v1.2 _ k11
        refine go_call (kc := 118) (Mc := mt118) (v := some (pvL v10.1)) (w' := (true, n, e, v10.2)) (pc' := 87) (st' := [pvL v10.1]) [pvR 6 0 116, pvI v1.2] [] (Or.inl rfl) dX10_cell_84 rfl rm_10_245 mtE118 rfl rfl rfl (Nat.le_of_ble_eq_true rfl) (Or.inr ⟨_, _, 116, rfl, Or.inl rfl⟩) k11 rfl ?_
        refine go_lstore (L' := [some (pvR 10 0 0), some (pvI x1), some (pvI x2), some (pvI x3), some (pvI x4), some (pvI v1.2), some (pvI v6), some (pvL v10.1), none]) (pc' := 89) dX10_cell_87 rfl (Nat.le_of_ble_eq_true rfl) rfl ?_
        refine go_aload_n (pc' := 90) dX10_cell_89 rfl rfl (Nat.le_of_ble_eq_true rfl) ?_
        refine go_getR (k' := 3) (L0 := 0) (P' := 108) (pc' := 93) dX10_cell_90 rfl rf_10_35 rfl rfl (by omega) ?_
        refine go_iload (pc' := 95) dX10_cell_93 rfl rfl ?_
        refine go_iload (pc' := 97) dX10_cell_95 rfl rfl ?_
        refine go_lload (pc' := 99) dX10_cell_97 rfl rfl ?_
        obtain ⟨v12, k13, h⟩ := bd h
        have k13 := l_K_keep (d + 238) n e v10.2 v1.2 x4 v10.1 _ k13
        refine go_call (kc := 127) (Mc := mt127) (v := none) (w' := (true, n, e, v12)) (pc' := 102) (st' := []) [pvR 3 0 108, pvI v1.2, pvI x4, pvL v10.1] [] (Or.inl rfl) dX10_cell_99 rfl rm_10_248 mtE127 rfl rfl rfl (Nat.le_of_ble_eq_true rfl) (Or.inr ⟨_, _, 108, rfl, Or.inl rfl⟩) k13 rfl ?_
        refine go_lload (pc' := 104) dX10_cell_102 rfl rfl ?_
        cases h
        exact go_lret dX10_cell_104 rfl rfl
      · rw [if_neg (show ¬ (v6 = (-1)) from c17)] at h
        refine go_aload_n (pc' := 47) dX10_cell_46 rfl rfl (Nat.le_of_ble_eq_true rfl) ?_
        refine go_getR (k' := 3) (L0 := 0) (P' := 108) (pc' := 50) dX10_cell_47 rfl rf_10_35 rfl rfl (by omega) ?_
        refine go_dup (pc' := 51) dX10_cell_50 rfl (Nat.ne_of_beq_eq_false rfl) ?_
        refine go_getI (pc' := 54) dX10_cell_51 rfl rf_10_235 rfl ?_
        refine go_iconst (pc' := 55) dX10_cell_54 rfl (r32_c rfl) ?_
        obtain ⟨g14, h⟩ := gd h
        refine go_iadd (pc' := 56) dX10_cell_55 rfl g14 ?_
        refine go_putI (pc' := 59) dX10_cell_56 rfl rf_10_235 rfl ?_
        refine go_aload_n (pc' := 60) dX10_cell_59 rfl rfl (Nat.le_of_ble_eq_true rfl) ?_
        refine go_getR (k' := 3) (L0 := 0) (P' := 108) (pc' := 63) dX10_cell_60 rfl rf_10_35 rfl rfl (by omega) ?_
        refine go_iload (pc' := 65) dX10_cell_63 rfl rfl ?_
        obtain ⟨v15, k16, h⟩ := bd h
        have k16 := l_K_valueAt (d + 239) n e (hset σ 108 1 ((σ 108 1) + 1)) v6 _ k16
        refine go_call (kc := 126) (Mc := mt126) (v := some (pvL v15)) (w' := (true, n, e, (hset σ 108 1 ((σ 108 1) + 1)))) (pc' := 68) (st' := [pvL v15]) [pvR 3 0 108, pvI v6] [] (Or.inl rfl) dX10_cell_65 rfl rm_10_238 mtE126 rfl rfl rfl (Nat.le_of_ble_eq_true rfl) (Or.inr ⟨_, _, 108, rfl, Or.inl rfl⟩) k16 rfl ?_
        cases h
        exact go_lret dX10_cell_68 rfl rfl
    · rw [if_neg (show ¬ (v4 ≠ 0) from c18)] at h
      refine go_ldc2 (pc' := 26) dX10_cell_23 rfl (r64_c rfl) rc_10_232 ?_
      cases h
      exact go_lret dX10_cell_26 rfl rfl
  · rw [if_neg c3] at h
    obtain ⟨g19, h⟩ := gd h
    cases h
    have k2 := l_C_existingCell (d + 238) n e σ x1 x2 x3 x4 _ k2
    simp only [if_neg c3] at k2 ⊢
    exact go_callX (kc := 59) (Mc := mt59) [pvR 10 0 0, pvI x1, pvI x2, pvI x3, pvI x4] [] (Or.inl rfl) dX10_cell_6 rm_10_205 mtE59 rfl rfl rfl (Nat.le_of_ble_eq_true rfl) (Or.inr ⟨_, _, 0, rfl, Or.inl rfl⟩) rfl c3 g19 k2 rfl

set_option maxRecDepth 10000 in
theorem l_C_at (d : Nat) (n e : Nat) (σ : Hp) (x1 : Int) (x2 : Int) (r : Nat × Int × Hp) (h : f_C_at σ x1 x2 = some r) : Ev (d + 3) 128 [pvR 10 0 0, pvI x1, pvI x2] (true, n, e, σ) (r.1, if r.1 = 0 then some (pvI r.2.1) else none, true, n, e + if r.1 = 0 then 0 else 1, r.2.2) := by
  unfold f_C_at at h
  refine Ev.of mtE128 rfl rfl rfl rfl ?_
  show Go none (Ev (d + 2)) mt128 0 [some (pvR 10 0 0), some (pvI x1), some (pvI x2), none, none] [] (true, n, e, σ) (r.1, if r.1 = 0 then some (pvI r.2.1) else none, true, n, e + if r.1 = 0 then 0 else 1, r.2.2)
  refine go_aload_n (pc' := 1) dX10_at_0 rfl rfl (Nat.le_of_ble_eq_true rfl) ?_
  refine go_iload_n (pc' := 2) dX10_at_1 rfl rfl ?_
  obtain ⟨v1, k2, h⟩ := bd h
  by_cases c3 : v1.1 = 0
  · rw [if_pos c3] at h
    have k2 := l_C_existing (d + 0) n e σ x1 _ k2
    rw [c3] at k2
    refine go_call (kc := 13) (Mc := mt13) (v := some (pvR 0 0 v1.2)) (w' := (true, n, e, σ)) (pc' := 5) (st' := [pvR 0 0 v1.2]) [pvR 10 0 0, pvI x1] [] (Or.inl rfl) dX10_at_2 rfl rm_10_62 mtE13 rfl rfl rfl (Nat.le_of_ble_eq_true rfl) (Or.inr ⟨_, _, 0, rfl, Or.inl rfl⟩) k2 rfl ?_
    refine go_astore_n (L' := [some (pvR 10 0 0), some (pvI x1), some (pvI x2), some (pvR 0 0 v1.2), none]) (pc' := 6) dX10_at_5 rfl (Nat.le_of_ble_eq_true rfl) (Nat.le_of_ble_eq_true rfl) rfl ?_
    refine go_aload_n (pc' := 7) dX10_at_6 rfl rfl (Nat.le_of_ble_eq_true rfl) ?_
    refine go_iload_n (pc' := 8) dX10_at_7 rfl rfl ?_
    obtain ⟨v4, k5, h⟩ := bd h
    by_cases c6 : v4 = 0
    · rw [if_pos c6] at h
      have k5 := l_C_needMember (d + 0) n e σ v1.2 x2 _ k5
      rw [c6] at k5
      refine go_call (kc := 15) (Mc := mt15) (v := none) (w' := (true, n, e, σ)) (pc' := 11) (st' := []) [pvR 0 0 v1.2, pvI x2] [] (Or.inr (Or.inl rfl)) dX10_at_8 rfl rm_10_66 mtE15 rfl rfl rfl (Nat.le_of_ble_eq_true rfl) (Or.inl (by decide)) k5 rfl ?_
      refine go_aload_n (pc' := 12) dX10_at_11 rfl rfl (Nat.le_of_ble_eq_true rfl) ?_
      refine go_getI (pc' := 15) dX10_at_12 rfl rf_10_253 rfl ?_
      refine go_istore (L' := [some (pvR 10 0 0), some (pvI x1), some (pvI x2), some (pvR 0 0 v1.2), some (pvI (σ v1.2 1))]) (pc' := 17) dX10_at_15 rfl (Nat.le_of_ble_eq_true rfl) rfl ?_
      refine go_aload_n (pc' := 18) dX10_at_17 rfl rfl (Nat.le_of_ble_eq_true rfl) ?_
      refine go_iload_n (pc' := 19) dX10_at_18 rfl rfl ?_
      refine go_putI (pc' := 22) dX10_at_19 rfl rf_10_253 rfl ?_
      refine go_iload (pc' := 24) dX10_at_22 rfl rfl ?_
      cases h
      exact go_iret dX10_at_24 rfl rfl
    · rw [if_neg c6] at h
      obtain ⟨g7, h⟩ := gd h
      cases h
      have k5 := l_C_needMember (d + 0) n e σ v1.2 x2 _ k5
      simp only [if_neg c6] at k5 ⊢
      exact go_callX (kc := 15) (Mc := mt15) [pvR 0 0 v1.2, pvI x2] [] (Or.inr rfl) dX10_at_8 rm_10_66 mtE15 rfl rfl rfl (Nat.le_of_ble_eq_true rfl) (Or.inl (by decide)) rfl c6 g7 k5 rfl
  · rw [if_neg c3] at h
    obtain ⟨g8, h⟩ := gd h
    cases h
    have k2 := l_C_existing (d + 0) n e σ x1 _ k2
    simp only [if_neg c3] at k2 ⊢
    exact go_callX (kc := 13) (Mc := mt13) [pvR 10 0 0, pvI x1] [] (Or.inl rfl) dX10_at_2 rm_10_62 mtE13 rfl rfl rfl (Nat.le_of_ble_eq_true rfl) (Or.inr ⟨_, _, 0, rfl, Or.inl rfl⟩) rfl c3 g8 k2 rfl

set_option maxRecDepth 10000 in
theorem l_C_picked (d : Nat) (n e : Nat) (σ : Hp) (x1 : Int) (x2 : Int) (r : Nat × Int) (h : f_C_picked σ x1 x2 = some r) : Ev (d + 3) 129 [pvR 10 0 0, pvI x1, pvI x2] (true, n, e, σ) (r.1, if r.1 = 0 then some (pvI r.2) else none, true, n, e + if r.1 = 0 then 0 else 1, σ) := by
  unfold f_C_picked at h
  refine Ev.of mtE129 rfl rfl rfl rfl ?_
  show Go none (Ev (d + 2)) mt129 0 [some (pvR 10 0 0), some (pvI x1), some (pvI x2), none] [] (true, n, e, σ) (r.1, if r.1 = 0 then some (pvI r.2) else none, true, n, e + if r.1 = 0 then 0 else 1, σ)
  refine go_aload_n (pc' := 1) dX10_picked_0 rfl rfl (Nat.le_of_ble_eq_true rfl) ?_
  refine go_iload_n (pc' := 2) dX10_picked_1 rfl rfl ?_
  obtain ⟨v1, k2, h⟩ := bd h
  by_cases c3 : v1.1 = 0
  · rw [if_pos c3] at h
    have k2 := l_C_existing (d + 0) n e σ x1 _ k2
    rw [c3] at k2
    refine go_call (kc := 13) (Mc := mt13) (v := some (pvR 0 0 v1.2)) (w' := (true, n, e, σ)) (pc' := 5) (st' := [pvR 0 0 v1.2]) [pvR 10 0 0, pvI x1] [] (Or.inl rfl) dX10_picked_2 rfl rm_10_62 mtE13 rfl rfl rfl (Nat.le_of_ble_eq_true rfl) (Or.inr ⟨_, _, 0, rfl, Or.inl rfl⟩) k2 rfl ?_
    refine go_astore_n (L' := [some (pvR 10 0 0), some (pvI x1), some (pvI x2), some (pvR 0 0 v1.2)]) (pc' := 6) dX10_picked_5 rfl (Nat.le_of_ble_eq_true rfl) (Nat.le_of_ble_eq_true rfl) rfl ?_
    refine go_iload_n (pc' := 7) dX10_picked_6 rfl rfl ?_
    refine go_if_ge (t := 21) (pc' := 10) dX10_picked_7 rfl rfl (fun c6 => ?_) (fun c6 => ?_)
    · rw [if_pos (show 0 ≤ x2 from c6)] at h
      refine go_aload_n (pc' := 22) dX10_picked_21 rfl rfl (Nat.le_of_ble_eq_true rfl) ?_
      refine go_iload_n (pc' := 23) dX10_picked_22 rfl rfl ?_
      obtain ⟨v4, k5, h⟩ := bd h
      have k5 := l_D_pickedAt (d + 1) n e σ v1.2 x2 _ k5
      refine go_call (kc := 91) (Mc := mt91) (v := some (pvI v4)) (w' := (true, n, e, σ)) (pc' := 26) (st' := [pvI v4]) [pvR 0 0 v1.2, pvI x2] [] (Or.inl rfl) dX10_picked_23 rfl rm_10_267 mtE91 rfl rfl rfl (Nat.le_of_ble_eq_true rfl) (Or.inr ⟨_, _, v1.2, rfl, Or.inl rfl⟩) k5 rfl ?_
      cases h
      exact go_iret dX10_picked_26 rfl rfl
    · rw [if_neg (show ¬ (0 ≤ x2) from c6)] at h
      cases h
      exact go_throw (x := 1) (ic := 112) (ln := 3) (tx := "no such place") dX10_picked_10 rt_10_108 rfl rfl (Nat.le_of_ble_eq_true rfl) dX10_picked_13 (Or.inr ⟨dX10_picked_14, rfl⟩) dX10_picked_17 dX10_picked_20 (Or.inl ⟨rfl, rfl⟩) (by decide +kernel) rfl
  · rw [if_neg c3] at h
    obtain ⟨g7, h⟩ := gd h
    cases h
    have k2 := l_C_existing (d + 0) n e σ x1 _ k2
    simp only [if_neg c3] at k2 ⊢
    exact go_callX (kc := 13) (Mc := mt13) [pvR 10 0 0, pvI x1] [] (Or.inl rfl) dX10_picked_2 rm_10_62 mtE13 rfl rfl rfl (Nat.le_of_ble_eq_true rfl) (Or.inr ⟨_, _, 0, rfl, Or.inl rfl⟩) rfl c3 g7 k2 rfl

set_option maxRecDepth 10000 in
theorem l_C_cross_82 (d : Nat) (n : Nat) (e : Nat) (x1 : Int) (x2 : Int) (x3 : Int) (v1 : Nat × Nat) (v4 : Nat × Nat) (v19 : Int) (y13 : Int) {out : Out} : ∀ (F : Nat) (y21 : Int) (y22 : Int) (σ23 : Hp) (j36 : Int × Int × Hp), f_C_cross_82 x2 v4 v19 F y21 y22 σ23 = some j36 → Go none (Ev (d + 241)) mt130 128 [some (pvR 10 0 0), some (pvI x1), some (pvI x2), some (pvI x3), some (pvR 0 0 v1.2), some (pvR 0 0 v4.2), some (pvI j36.1), some (pvI y13), some (pvI v19), some (pvI j36.2.1)] [] (true, n, e, j36.2.2) out → Go none (Ev (d + 241)) mt130 82 [some (pvR 10 0 0), some (pvI x1), some (pvI x2), some (pvI x3), some (pvR 0 0 v1.2), some (pvR 0 0 v4.2), some (pvI y21), some (pvI y13), some (pvI v19), some (pvI y22)] [] (true, n, e, σ23) out := by
  intro F
  induction F with
  | zero =>
    intro _ _ _ _ h
    intro _
    rw [f_C_cross_82] at h
    cases h
  | succ F ih =>
    intro y21 y22 σ23 j36 h hx
    rw [f_C_cross_82] at h
    refine go_iload (pc' := 84) dX10_cross_82 rfl rfl ?_
    refine go_aload (pc' := 86) dX10_cross_84 rfl rfl (Nat.le_of_ble_eq_true rfl) ?_
    refine go_getI (pc' := 89) dX10_cross_86 rfl rf_10_262 rfl ?_
    refine go_icmp_ge (t := 128) (pc' := 92) dX10_cross_89 rfl rfl (fun c35 => ?_) (fun c35 => ?_)
    · rw [if_pos (show (σ23 v4.2 2) ≤ y22 from c35)] at h
      cases h
      exact hx
    · rw [if_neg (show ¬ ((σ23 v4.2 2) ≤ y22) from c35)] at h
      refine go_aload_n (pc' := 93) dX10_cross_92 rfl rfl (Nat.le_of_ble_eq_true rfl) ?_
      refine go_getR (k' := 6) (L0 := 0) (P' := 116) (pc' := 96) dX10_cross_93 rfl rf_10_51 rfl rfl (by omega) ?_
      refine go_iload (pc' := 98) dX10_cross_96 rfl rfl ?_
      refine go_iload_n (pc' := 99) dX10_cross_98 rfl rfl ?_
      refine go_aload (pc' := 101) dX10_cross_99 rfl rfl (Nat.le_of_ble_eq_true rfl) ?_
      refine go_iload (pc' := 103) dX10_cross_101 rfl rfl ?_
      obtain ⟨v24, k25, h⟩ := bd h
      have k25 := l_D_pickedAt (d + 240) n e σ23 v4.2 y22 _ k25
      refine go_call (kc := 91) (Mc := mt91) (v := some (pvI v24)) (w' := (true, n, e, σ23)) (pc' := 106) (st' := [pvI v24, pvI x2, pvI v19, pvR 6 0 116]) [pvR 0 0 v4.2, pvI y22] [pvI x2, pvI v19, pvR 6 0 116] (Or.inl rfl) dX10_cross_103 rfl rm_10_267 mtE91 rfl rfl rfl (Nat.le_of_ble_eq_true rfl) (Or.inr ⟨_, _, v4.2, rfl, Or.inl rfl⟩) k25 rfl ?_
      obtain ⟨v26, k27, h⟩ := bd h
      have k27 := l_C_withMember (d + 239) n e σ23 v19 x2 v24 _ k27
      refine go_call (kc := 93) (Mc := mt93) (v := some (pvI v26)) (w' := (true, n, e, σ23)) (pc' := 109) (st' := [pvI v26, pvR 6 0 116]) [pvI v19, pvI x2, pvI v24] [pvR 6 0 116] (Or.inr (Or.inl rfl)) dX10_cross_106 rfl rm_10_278 mtE93 rfl rfl rfl (Nat.le_of_ble_eq_true rfl) (Or.inl (by decide)) k27 rfl ?_
      obtain ⟨v28, k29, h⟩ := bd h
      have k29 := l_R_asAsked (d + 0) n e σ23 v26 _ k29
      refine go_call (kc := 118) (Mc := mt118) (v := some (pvL v28.1)) (w' := (true, n, e, v28.2)) (pc' := 112) (st' := [pvL v28.1]) [pvR 6 0 116, pvI v26] [] (Or.inl rfl) dX10_cross_109 rfl rm_10_245 mtE118 rfl rfl rfl (Nat.le_of_ble_eq_true rfl) (Or.inr ⟨_, _, 116, rfl, Or.inl rfl⟩) k29 rfl ?_
      refine go_ldc2 (pc' := 115) dX10_cross_112 rfl (r64_c rfl) rc_10_232 ?_
      refine go_lcmp (pc' := 116) dX10_cross_115 rfl ?_
      obtain ⟨j30, k31, h⟩ := bd h
      have k31J : Go none (Ev (d + 241)) mt130 122 [some (pvR 10 0 0), some (pvI x1), some (pvI x2), some (pvI x3), some (pvR 0 0 v1.2), some (pvR 0 0 v4.2), some (pvI j30), some (pvI y13), some (pvI v19), some (pvI y22)] [] (true, n, e, v28.2) out := by
        obtain ⟨g33, h⟩ := gd h
        refine go_iinc (L' := [some (pvR 10 0 0), some (pvI x1), some (pvI x2), some (pvI x3), some (pvR 0 0 v1.2), some (pvR 0 0 v4.2), some (pvI j30), some (pvI y13), some (pvI v19), some (pvI (y22 + 1))]) (pc' := 125) dX10_cross_122 rfl rfl g33 rfl ?_
        refine go_goto (t := 82) dX10_cross_125 rfl ?_
        exact ih j30 (y22 + 1) v28.2 _ h hx
      clear h
      have h := k31
      refine go_if_eq (t := 122) (pc' := 119) dX10_cross_116 rfl rfl (fun c34 => ?_) (fun c34 => ?_)
      · rw [if_pos (show (lcm v28.1 (-9223372036854775808)) = 0 from c34)] at h
        cases h
        exact k31J
      · rw [if_neg (show ¬ ((lcm v28.1 (-9223372036854775808)) = 0) from c34)] at h
        obtain ⟨g32, h⟩ := gd h
        refine go_iinc (L' := [some (pvR 10 0 0), some (pvI x1), some (pvI x2), some (pvI x3), some (pvR 0 0 v1.2), some (pvR 0 0 v4.2), some (pvI (y21 + 1)), some (pvI y13), some (pvI v19), some (pvI y22)]) (pc' := 122) dX10_cross_119 rfl rfl g32 rfl ?_
        cases h
        exact k31J

set_option maxRecDepth 10000 in
theorem l_C_cross_49 (d : Nat) (n : Nat) (e : Nat) (x1 : Int) (x2 : Int) (x3 : Int) (v1 : Nat × Nat) (v4 : Nat × Nat) {out : Out} : ∀ (F : Nat) (y12 : Int) (y13 : Int) (σ14 : Hp) (j41 : Int × Int × Hp), f_C_cross_49 x1 x2 v1 v4 F y12 y13 σ14 = some j41 → Go none (Ev (d + 241)) mt130 134 [some (pvR 10 0 0), some (pvI x1), some (pvI x2), some (pvI x3), some (pvR 0 0 v1.2), some (pvR 0 0 v4.2), some (pvI j41.1), some (pvI j41.2.1), none, none] [] (true, n, e, j41.2.2) out → Go none (Ev (d + 241)) mt130 49 [some (pvR 10 0 0), some (pvI x1), some (pvI x2), some (pvI x3), some (pvR 0 0 v1.2), some (pvR 0 0 v4.2), some (pvI y12), some (pvI y13), none, none] [] (true, n, e, σ14) out := by
  intro F
  induction F with
  | zero =>
    intro _ _ _ _ h
    intro _
    rw [f_C_cross_49] at h
    cases h
  | succ F ih =>
    intro y12 y13 σ14 j41 h hx
    rw [f_C_cross_49] at h
    refine go_iload (pc' := 51) dX10_cross_49 rfl rfl ?_
    refine go_aload (pc' := 53) dX10_cross_51 rfl rfl (Nat.le_of_ble_eq_true rfl) ?_
    refine go_getI (pc' := 56) dX10_cross_53 rfl rf_10_262 rfl ?_
    refine go_icmp_ge (t := 134) (pc' := 59) dX10_cross_56 rfl rfl (fun c40 => ?_) (fun c40 => ?_)
    · rw [if_pos (show (σ14 v1.2 2) ≤ y13 from c40)] at h
      cases h
      exact hx
    · rw [if_neg (show ¬ ((σ14 v1.2 2) ≤ y13) from c40)] at h
      refine go_aload_n (pc' := 60) dX10_cross_59 rfl rfl (Nat.le_of_ble_eq_true rfl) ?_
      refine go_getR (k' := 7) (L0 := 0) (P' := 1) (pc' := 63) dX10_cross_60 rfl rf_10_12 rfl rfl (by omega) ?_
      obtain ⟨v15, k16, h⟩ := bd h
      have k16 := l_S_chosenCell (d + 240) n e σ14 _ k16
      refine go_call (kc := 92) (Mc := mt92) (v := some (pvI v15)) (w' := (true, n, e, σ14)) (pc' := 66) (st' := [pvI v15]) [pvR 7 0 1] [] (Or.inl rfl) dX10_cross_63 rfl rm_10_275 mtE92 rfl rfl rfl (Nat.le_of_ble_eq_true rfl) (Or.inr ⟨_, _, 1, rfl, Or.inl rfl⟩) k16 rfl ?_
      refine go_iload_n (pc' := 67) dX10_cross_66 rfl rfl ?_
      refine go_aload (pc' := 69) dX10_cross_67 rfl rfl (Nat.le_of_ble_eq_true rfl) ?_
      refine go_iload (pc' := 71) dX10_cross_69 rfl rfl ?_
      obtain ⟨v17, k18, h⟩ := bd h
      have k18 := l_D_pickedAt (d + 240) n e σ14 v1.2 y13 _ k18
      refine go_call (kc := 91) (Mc := mt91) (v := some (pvI v17)) (w' := (true, n, e, σ14)) (pc' := 74) (st' := [pvI v17, pvI x1, pvI v15]) [pvR 0 0 v1.2, pvI y13] [pvI x1, pvI v15] (Or.inl rfl) dX10_cross_71 rfl rm_10_267 mtE91 rfl rfl rfl (Nat.le_of_ble_eq_true rfl) (Or.inr ⟨_, _, v1.2, rfl, Or.inl rfl⟩) k18 rfl ?_
      obtain ⟨v19, k20, h⟩ := bd h
      have k20 := l_C_withMember (d + 239) n e σ14 v15 x1 v17 _ k20
      refine go_call (kc := 93) (Mc := mt93) (v := some (pvI v19)) (w' := (true, n, e, σ14)) (pc' := 77) (st' := [pvI v19]) [pvI v15, pvI x1, pvI v17] [] (Or.inr (Or.inl rfl)) dX10_cross_74 rfl rm_10_278 mtE93 rfl rfl rfl (Nat.le_of_ble_eq_true rfl) (Or.inl (by decide)) k20 rfl ?_
      refine go_istore (L' := [some (pvR 10 0 0), some (pvI x1), some (pvI x2), some (pvI x3), some (pvR 0 0 v1.2), some (pvR 0 0 v4.2), some (pvI y12), some (pvI y13), some (pvI v19), none]) (pc' := 79) dX10_cross_77 rfl (Nat.le_of_ble_eq_true rfl) rfl ?_
      refine go_iconst (pc' := 80) dX10_cross_79 rfl (r32_c rfl) ?_
      refine go_istore (L' := [some (pvR 10 0 0), some (pvI x1), some (pvI x2), some (pvI x3), some (pvR 0 0 v1.2), some (pvR 0 0 v4.2), some (pvI y12), some (pvI y13), some (pvI v19), some (pvI 0)]) (pc' := 82) dX10_cross_80 rfl (Nat.le_of_ble_eq_true rfl) rfl ?_
      obtain ⟨j37, k38, h⟩ := bd h
      refine l_C_cross_82 d n e x1 x2 x3 v1 v4 v19 y13 zFuel y12 0 σ14 _ k38 ?_
      obtain ⟨g39, h⟩ := gd h
      refine go_iinc (L' := [some (pvR 10 0 0), some (pvI x1), some (pvI x2), some (pvI x3), some (pvR 0 0 v1.2), some (pvR 0 0 v4.2), some (pvI j37.1), some (pvI (y13 + 1)), some (pvI v19), some (pvI j37.2.1)]) (pc' := 131) dX10_cross_128 rfl rfl g39 rfl ?_
      refine go_goto (t := 49) dX10_cross_131 rfl ?_
      exact go_sub (ih j37.1 (y13 + 1) j37.2.2 _ h hx) ⟨Or.inr rfl, Or.inr rfl, Or.inr rfl, Or.inr rfl, Or.inr rfl, Or.inr rfl, Or.inr rfl, Or.inr rfl, Or.inl rfl, Or.inl rfl, trivial⟩

set_option maxRecDepth 10000 in
theorem l_C_cross (d : Nat) (n e : Nat) (σ : Hp) (x1 : Int) (x2 : Int) (x3 : Int) (r : Nat × Int × Hp) (h : f_C_cross σ x1 x2 x3 = some r) : Ev (d + 242) 130 [pvR 10 0 0, pvI x1, pvI x2, pvI x3] (true, n, e, σ) (r.1, if r.1 = 0 then some (pvI r.2.1) else none, true, n, e + if r.1 = 0 then 0 else 1, r.2.2) := by
  unfold f_C_cross at h
  refine Ev.of mtE130 rfl rfl rfl rfl ?_
  show Go none (Ev (d + 241)) mt130 0 [some (pvR 10 0 0), some (pvI x1), some (pvI x2), some (pvI x3), none, none, none, none, none, none] [] (true, n, e, σ) (r.1, if r.1 = 0 then some (pvI r.2.1) else none, true, n, e + if r.1 = 0 then 0 else 1, r.2.2)
  refine go_aload_n (pc' := 1) dX10_cross_0 rfl rfl (Nat.le_of_ble_eq_true rfl) ?_
  refine go_iload_n (pc' := 2) dX10_cross_1 rfl rfl ?_
  obtain ⟨v1, k2, h⟩ := bd h
  by_cases c3 : v1.1 = 0
  · rw [if_pos c3] at h
    have k2 := l_C_existing (d + 239) n e σ x1 _ k2
    rw [c3] at k2
    refine go_call (kc := 13) (Mc := mt13) (v := some (pvR 0 0 v1.2)) (w' := (true, n, e, σ)) (pc' := 5) (st' := [pvR 0 0 v1.2]) [pvR 10 0 0, pvI x1] [] (Or.inl rfl) dX10_cross_2 rfl rm_10_62 mtE13 rfl rfl rfl (Nat.le_of_ble_eq_true rfl) (Or.inr ⟨_, _, 0, rfl, Or.inl rfl⟩) k2 rfl ?_
    refine go_astore (L' := [some (pvR 10 0 0), some (pvI x1), some (pvI x2), some (pvI x3), some (pvR 0 0 v1.2), none, none, none, none, none]) (pc' := 7) dX10_cross_5 rfl (Nat.le_of_ble_eq_true rfl) (Nat.le_of_ble_eq_true rfl) rfl ?_
    refine go_aload_n (pc' := 8) dX10_cross_7 rfl rfl (Nat.le_of_ble_eq_true rfl) ?_
    refine go_iload_n (pc' := 9) dX10_cross_8 rfl rfl ?_
    obtain ⟨v4, k5, h⟩ := bd h
    by_cases c6 : v4.1 = 0
    · rw [if_pos c6] at h
      have k5 := l_C_existing (d + 239) n e σ x2 _ k5
      rw [c6] at k5
      refine go_call (kc := 13) (Mc := mt13) (v := some (pvR 0 0 v4.2)) (w' := (true, n, e, σ)) (pc' := 12) (st' := [pvR 0 0 v4.2]) [pvR 10 0 0, pvI x2] [] (Or.inl rfl) dX10_cross_9 rfl rm_10_62 mtE13 rfl rfl rfl (Nat.le_of_ble_eq_true rfl) (Or.inr ⟨_, _, 0, rfl, Or.inl rfl⟩) k5 rfl ?_
      refine go_astore (L' := [some (pvR 10 0 0), some (pvI x1), some (pvI x2), some (pvI x3), some (pvR 0 0 v1.2), some (pvR 0 0 v4.2), none, none, none, none]) (pc' := 14) dX10_cross_12 rfl (Nat.le_of_ble_eq_true rfl) (Nat.le_of_ble_eq_true rfl) rfl ?_
      refine go_aload_n (pc' := 15) dX10_cross_14 rfl rfl (Nat.le_of_ble_eq_true rfl) ?_
      refine go_iload_n (pc' := 16) dX10_cross_15 rfl rfl ?_
      obtain ⟨v7, k8, h⟩ := bd h
      by_cases c9 : v7 = 0
      · rw [if_pos c9] at h
        have k8 := l_C_needMeasure (d + 239) n e σ x3 _ k8
        rw [c9] at k8
        refine go_call (kc := 37) (Mc := mt37) (v := none) (w' := (true, n, e, σ)) (pc' := 19) (st' := []) [pvR 10 0 0, pvI x3] [] (Or.inl rfl) dX10_cross_16 rfl rm_10_193 mtE37 rfl rfl rfl (Nat.le_of_ble_eq_true rfl) (Or.inr ⟨_, _, 0, rfl, Or.inl rfl⟩) k8 rfl ?_
        refine go_iload_n (pc' := 20) dX10_cross_19 rfl rfl ?_
        refine go_iload_n (pc' := 21) dX10_cross_20 rfl rfl ?_
        refine go_icmp_ne (t := 35) (pc' := 24) dX10_cross_21 rfl rfl (fun c44 => ?_) (fun c44 => ?_)
        · rw [if_pos (show x1 ≠ x2 from c44)] at h
          refine go_aload_n (pc' := 36) dX10_cross_35 rfl rfl (Nat.le_of_ble_eq_true rfl) ?_
          refine go_getR (k' := 6) (L0 := 0) (P' := 116) (pc' := 39) dX10_cross_36 rfl rf_10_51 rfl rfl (by omega) ?_
          refine go_iload_n (pc' := 40) dX10_cross_39 rfl rfl ?_
          obtain ⟨v10, k11, h⟩ := bd h
          have k11 := l_R_begins (d + 240) n e σ x3 _ k11
          refine go_call (kc := 89) (Mc := mt89) (v := none) (w' := (true, n, e, v10)) (pc' := 43) (st' := []) [pvR 6 0 116, pvI x3] [] (Or.inl rfl) dX10_cross_40 rfl rm_10_242 mtE89 rfl rfl rfl (Nat.le_of_ble_eq_true rfl) (Or.inr ⟨_, _, 116, rfl, Or.inl rfl⟩) k11 rfl ?_
          refine go_iconst (pc' := 44) dX10_cross_43 rfl (r32_c rfl) ?_
          refine go_istore (L' := [some (pvR 10 0 0), some (pvI x1), some (pvI x2), some (pvI x3), some (pvR 0 0 v1.2), some (pvR 0 0 v4.2), some (pvI 0), none, none, none]) (pc' := 46) dX10_cross_44 rfl (Nat.le_of_ble_eq_true rfl) rfl ?_
          refine go_iconst (pc' := 47) dX10_cross_46 rfl (r32_c rfl) ?_
          refine go_istore (L' := [some (pvR 10 0 0), some (pvI x1), some (pvI x2), some (pvI x3), some (pvR 0 0 v1.2), some (pvR 0 0 v4.2), some (pvI 0), some (pvI 0), none, none]) (pc' := 49) dX10_cross_47 rfl (Nat.le_of_ble_eq_true rfl) rfl ?_
          obtain ⟨j42, k43, h⟩ := bd h
          refine l_C_cross_49 d n e x1 x2 x3 v1 v4 zFuel 0 0 v10 _ k43 ?_
          refine go_iload (pc' := 136) dX10_cross_134 rfl rfl ?_
          cases h
          exact go_iret dX10_cross_136 rfl rfl
        · rw [if_neg (show ¬ (x1 ≠ x2) from c44)] at h
          cases h
          exact go_throw (x := 2) (ic := 274) (ln := 3) (tx := "both dimensions are the same") dX10_cross_24 rt_10_270 rfl rfl (Nat.le_of_ble_eq_true rfl) dX10_cross_27 (Or.inr ⟨dX10_cross_28, rfl⟩) dX10_cross_31 dX10_cross_34 (Or.inr (Or.inl ⟨rfl, rfl⟩)) (by decide +kernel) rfl
      · rw [if_neg c9] at h
        obtain ⟨g45, h⟩ := gd h
        cases h
        have k8 := l_C_needMeasure (d + 239) n e σ x3 _ k8
        simp only [if_neg c9] at k8 ⊢
        exact go_callX (kc := 37) (Mc := mt37) [pvR 10 0 0, pvI x3] [] (Or.inl rfl) dX10_cross_16 rm_10_193 mtE37 rfl rfl rfl (Nat.le_of_ble_eq_true rfl) (Or.inr ⟨_, _, 0, rfl, Or.inl rfl⟩) rfl c9 g45 k8 rfl
    · rw [if_neg c6] at h
      obtain ⟨g46, h⟩ := gd h
      cases h
      have k5 := l_C_existing (d + 239) n e σ x2 _ k5
      simp only [if_neg c6] at k5 ⊢
      exact go_callX (kc := 13) (Mc := mt13) [pvR 10 0 0, pvI x2] [] (Or.inl rfl) dX10_cross_9 rm_10_62 mtE13 rfl rfl rfl (Nat.le_of_ble_eq_true rfl) (Or.inr ⟨_, _, 0, rfl, Or.inl rfl⟩) rfl c6 g46 k5 rfl
  · rw [if_neg c3] at h
    obtain ⟨g47, h⟩ := gd h
    cases h
    have k2 := l_C_existing (d + 239) n e σ x1 _ k2
    simp only [if_neg c3] at k2 ⊢
    exact go_callX (kc := 13) (Mc := mt13) [pvR 10 0 0, pvI x1] [] (Or.inl rfl) dX10_cross_2 rm_10_62 mtE13 rfl rfl rfl (Nat.le_of_ble_eq_true rfl) (Or.inr ⟨_, _, 0, rfl, Or.inl rfl⟩) rfl c3 g47 k2 rfl

set_option maxRecDepth 10000 in
theorem l_L_asks_c451 (d : Nat) (n : Nat) (σ112 : Hp) (e113 : Nat) (z107 : Int) (z108 : Int) (z109 : Int) (z110 : Int) (z111 : Int) (r : Int × Nat × Hp) (h : f_L_asks_c451 σ112 e113 z107 z108 z109 z110 z111 = some r) : Go none (Ev (d + 243)) mt123 451 [some (pvR 10 0 0), none, none, none, none, none, some (pvI z107), none, none, none, none, some (pvI z108), some (pvI z109), some (pvI z110), none, some (pvI z111), none, none, none, none, none, none] [] (true, n, e113, σ112) (0, some (pvI r.1), true, n, r.2.1, r.2.2) := by
  unfold f_L_asks_c451 at h
  refine go_aload_n (pc' := 452) dL_asks_451 rfl rfl (Nat.le_of_ble_eq_true rfl) ?_
  refine go_iload (pc' := 454) dL_asks_452 rfl rfl ?_
  refine go_iconst (pc' := 455) dL_asks_454 rfl (r32_c rfl) ?_
  refine go_iconst (pc' := 456) dL_asks_455 rfl (r32_c rfl) ?_
  refine go_iload (pc' := 458) dL_asks_456 rfl rfl ?_
  refine go_iconst (pc' := 459) dL_asks_458 rfl (r32_c rfl) ?_
  obtain ⟨v114, k115, h⟩ := bd h
  have k115 := l_L_picks (d + 0) n e113 σ112 z109 0 0 z107 0 _ k115
  refine go_call (kc := 83) (Mc := mt83) (v := some (pvI v114.1)) (w' := (true, n, v114.2.1, v114.2.2)) (pc' := 462) (st' := [pvI v114.1]) [pvR 10 0 0, pvI z109, pvI 0, pvI 0, pvI z107, pvI 0] [] (Or.inr (Or.inl rfl)) dL_asks_459 rfl rm_12_88 mtE83 rfl rfl rfl (Nat.le_of_ble_eq_true rfl) (Or.inl (by decide)) k115 rfl ?_
  refine go_istore (L' := [some (pvR 10 0 0), none, none, none, none, none, some (pvI z107), none, none, none, none, some (pvI z108), some (pvI z109), some (pvI z110), none, some (pvI z111), none, none, some (pvI v114.1), none, none, none]) (pc' := 464) dL_asks_462 rfl (Nat.le_of_ble_eq_true rfl) rfl ?_
  refine go_aload_n (pc' := 465) dL_asks_464 rfl rfl (Nat.le_of_ble_eq_true rfl) ?_
  refine go_iload (pc' := 467) dL_asks_465 rfl rfl ?_
  refine go_iload (pc' := 469) dL_asks_467 rfl rfl ?_
  refine go_iload (pc' := 471) dL_asks_469 rfl rfl ?_
  obtain ⟨v116, k117, h⟩ := bd h
  obtain ⟨g118, h⟩ := gd h
  have k117 := l_C_cross (d + 1) n v114.2.1 v114.2.2 z108 z109 z107 _ k117
  rw [g118] at k117
  refine go_call (kc := 130) (Mc := mt130) (v := some (pvI v116.2.1)) (w' := (true, n, v114.2.1, v116.2.2)) (pc' := 474) (st' := [pvI v116.2.1]) [pvR 10 0 0, pvI z108, pvI z109, pvI z107] [] (Or.inl rfl) dL_asks_471 rfl rm_12_97 mtE130 rfl rfl rfl (Nat.le_of_ble_eq_true rfl) (Or.inr ⟨_, _, 0, rfl, Or.inl rfl⟩) k117 rfl ?_
  refine go_istore (L' := [some (pvR 10 0 0), none, none, none, none, none, some (pvI z107), none, none, none, none, some (pvI z108), some (pvI z109), some (pvI z110), none, some (pvI z111), none, none, some (pvI v114.1), some (pvI v116.2.1), none, none]) (pc' := 476) dL_asks_474 rfl (Nat.le_of_ble_eq_true rfl) rfl ?_
  refine go_aload_n (pc' := 477) dL_asks_476 rfl rfl (Nat.le_of_ble_eq_true rfl) ?_
  refine go_iload (pc' := 479) dL_asks_477 rfl rfl ?_
  refine go_iload (pc' := 481) dL_asks_479 rfl rfl ?_
  obtain ⟨v119, k120, h⟩ := bd h
  obtain ⟨g121, h⟩ := gd h
  have k120 := l_C_picked (d + 240) n v114.2.1 v116.2.2 z108 z111 _ k120
  rw [g121] at k120
  refine go_call (kc := 129) (Mc := mt129) (v := some (pvI v119.2)) (w' := (true, n, v114.2.1, v116.2.2)) (pc' := 484) (st' := [pvI v119.2]) [pvR 10 0 0, pvI z108, pvI z111] [] (Or.inl rfl) dL_asks_481 rfl rm_12_92 mtE129 rfl rfl rfl (Nat.le_of_ble_eq_true rfl) (Or.inr ⟨_, _, 0, rfl, Or.inl rfl⟩) k120 rfl ?_
  refine go_iconst (pc' := 485) dL_asks_484 rfl (r32_c rfl) ?_
  obtain ⟨j122, k123, h⟩ := bd h
  have k123J : Go none (Ev (d + 243)) mt123 545 [some (pvR 10 0 0), none, none, none, none, none, some (pvI z107), none, none, none, none, some (pvI z108), some (pvI z109), some (pvI z110), none, some (pvI z111), none, none, some (pvI v114.1), some (pvI v116.2.1), none, none] [pvI j122.1] (true, n, v114.2.1, j122.2) (0, some (pvI r.1), true, n, r.2.1, r.2.2) := by
    obtain ⟨g136, h⟩ := gd h
    cases h
    exact go_zret dL_asks_545 rfl g136 rfl
  clear h
  have h := k123
  refine go_icmp_ne (t := 544) (pc' := 488) dL_asks_485 rfl rfl (fun c137 => ?_) (fun c137 => ?_)
  · rw [if_pos (show v119.2 ≠ (-1) from c137)] at h
    refine go_iconst (pc' := 545) dL_asks_544 rfl (r32_c rfl) ?_
    cases h
    exact k123J
  · rw [if_neg (show ¬ (v119.2 ≠ (-1)) from c137)] at h
    refine go_iload (pc' := 490) dL_asks_488 rfl rfl ?_
    refine go_iconst (pc' := 491) dL_asks_490 rfl (r32_c rfl) ?_
    refine go_icmp_gt (t := 544) (pc' := 494) dL_asks_491 rfl rfl (fun c135 => ?_) (fun c135 => ?_)
    · rw [if_pos (show 3 < z111 from c135)] at h
      refine go_iconst (pc' := 545) dL_asks_544 rfl (r32_c rfl) ?_
      cases h
      exact k123J
    · rw [if_neg (show ¬ (3 < z111) from c135)] at h
      refine go_iload (pc' := 496) dL_asks_494 rfl rfl ?_
      refine go_iload (pc' := 498) dL_asks_496 rfl rfl ?_
      refine go_icmp_gt (t := 544) (pc' := 501) dL_asks_498 rfl rfl (fun c134 => ?_) (fun c134 => ?_)
      · rw [if_pos (show z110 < z111 from c134)] at h
        refine go_iconst (pc' := 545) dL_asks_544 rfl (r32_c rfl) ?_
        cases h
        exact k123J
      · rw [if_neg (show ¬ (z110 < z111) from c134)] at h
        refine go_iload (pc' := 503) dL_asks_501 rfl rfl ?_
        refine go_if_lt (t := 544) (pc' := 506) dL_asks_503 rfl rfl (fun c133 => ?_) (fun c133 => ?_)
        · rw [if_pos (show v116.2.1 < 0 from c133)] at h
          refine go_iconst (pc' := 545) dL_asks_544 rfl (r32_c rfl) ?_
          cases h
          exact k123J
        · rw [if_neg (show ¬ (v116.2.1 < 0) from c133)] at h
          refine go_iload (pc' := 508) dL_asks_506 rfl rfl ?_
          refine go_iload (pc' := 510) dL_asks_508 rfl rfl ?_
          refine go_iload (pc' := 512) dL_asks_510 rfl rfl ?_
          obtain ⟨g124, h⟩ := gd h
          refine go_imul (pc' := 513) dL_asks_512 rfl g124 ?_
          refine go_icmp_gt (t := 544) (pc' := 516) dL_asks_513 rfl rfl (fun c132 => ?_) (fun c132 => ?_)
          · rw [if_pos (show (z111 * v114.1) < v116.2.1 from c132)] at h
            refine go_iconst (pc' := 545) dL_asks_544 rfl (r32_c rfl) ?_
            cases h
            exact k123J
          · rw [if_neg (show ¬ ((z111 * v114.1) < v116.2.1) from c132)] at h
            refine go_aload_n (pc' := 517) dL_asks_516 rfl rfl (Nat.le_of_ble_eq_true rfl) ?_
            refine go_iload (pc' := 519) dL_asks_517 rfl rfl ?_
            refine go_iload (pc' := 521) dL_asks_519 rfl rfl ?_
            refine go_iload (pc' := 523) dL_asks_521 rfl rfl ?_
            obtain ⟨v125, k126, h⟩ := bd h
            obtain ⟨g127, h⟩ := gd h
            have k126 := l_C_cross (d + 1) n v114.2.1 v116.2.2 z109 z108 z107 _ k126
            rw [g127] at k126
            refine go_call (kc := 130) (Mc := mt130) (v := some (pvI v125.2.1)) (w' := (true, n, v114.2.1, v125.2.2)) (pc' := 526) (st' := [pvI v125.2.1]) [pvR 10 0 0, pvI z109, pvI z108, pvI z107] [] (Or.inl rfl) dL_asks_523 rfl rm_12_97 mtE130 rfl rfl rfl (Nat.le_of_ble_eq_true rfl) (Or.inr ⟨_, _, 0, rfl, Or.inl rfl⟩) k126 rfl ?_
            refine go_iload (pc' := 528) dL_asks_526 rfl rfl ?_
            refine go_icmp_ne (t := 544) (pc' := 531) dL_asks_528 rfl rfl (fun c131 => ?_) (fun c131 => ?_)
            · rw [if_pos (show v125.2.1 ≠ v116.2.1 from c131)] at h
              refine go_iconst (pc' := 545) dL_asks_544 rfl (r32_c rfl) ?_
              cases h
              exact k123J
            · rw [if_neg (show ¬ (v125.2.1 ≠ v116.2.1) from c131)] at h
              refine go_aload_n (pc' := 532) dL_asks_531 rfl rfl (Nat.le_of_ble_eq_true rfl) ?_
              obtain ⟨v128, k129, h⟩ := bd h
              have k129 := l_C_facts (d + 242) n v114.2.1 v125.2.2 _ k129
              refine go_call (kc := 119) (Mc := mt119) (v := some (pvI v128)) (w' := (true, n, v114.2.1, v125.2.2)) (pc' := 535) (st' := [pvI v128]) [pvR 10 0 0] [] (Or.inl rfl) dL_asks_532 rfl rm_12_72 mtE119 rfl rfl rfl (Nat.le_of_ble_eq_true rfl) (Or.inr ⟨_, _, 0, rfl, Or.inl rfl⟩) k129 rfl ?_
              refine go_bipush (pc' := 537) dL_asks_535 rfl (r32_c rfl) (by decide) ?_
              refine go_icmp_gt (t := 544) (pc' := 540) dL_asks_537 rfl rfl (fun c130 => ?_) (fun c130 => ?_)
              · rw [if_pos (show 50 < v128 from c130)] at h
                refine go_iconst (pc' := 545) dL_asks_544 rfl (r32_c rfl) ?_
                cases h
                exact k123J
              · rw [if_neg (show ¬ (50 < v128) from c130)] at h
                refine go_iconst (pc' := 541) dL_asks_540 rfl (r32_c rfl) ?_
                refine go_goto (t := 545) dL_asks_541 rfl ?_
                cases h
                exact k123J

set_option maxRecDepth 10000 in
theorem l_L_asks_360 (d : Nat) (n : Nat) (e : Nat) (z89 : Int) (z90 : Int) (z91 : Int) (z92 : Int) (z93 : Int) (z94 : Int) (z95 : Int) (z96 : Int) (v101 : Int × Nat × Hp) : ∀ (F : Nat) (y103 : Int) (y104 : Int) (σ105 : Hp) (e106 : Nat) (r : Int × Nat × Hp), f_L_asks_360 z90 z91 z92 z93 z94 z95 z96 v101 F y103 y104 σ105 e106 = some r → Go none (Ev (d + 243)) mt123 360 [some (pvR 10 0 0), none, some (pvI z89), some (pvI z90), some (pvI z91), some (pvI z92), some (pvI z93), none, none, none, none, some (pvI z94), some (pvI z95), some (pvI z96), none, some (pvI v101.1), some (pvL y103), none, some (pvI y104), none, none, none] [] (true, n, e106, σ105) (0, some (pvI r.1), true, n, r.2.1, r.2.2) := by
  intro F
  induction F with
  | zero =>
    intro _ _ _ _ _ h
    rw [f_L_asks_360] at h
    cases h
  | succ F ih =>
    intro y103 y104 σ105 e106 r h
    rw [f_L_asks_360] at h
    refine go_iload (pc' := 362) dL_asks_360 rfl rfl ?_
    refine go_iload (pc' := 364) dL_asks_362 rfl rfl ?_
    refine go_icmp_ge (t := 451) (pc' := 367) dL_asks_364 rfl rfl (fun c158 => ?_) (fun c158 => ?_)
    · rw [if_pos (show v101.1 ≤ y104 from c158)] at h
      exact go_sub (l_L_asks_c451 d n σ105 e106 z93 z94 z95 z96 v101.1 _ h) ⟨Or.inr rfl, Or.inr rfl, Or.inl rfl, Or.inl rfl, Or.inl rfl, Or.inl rfl, Or.inr rfl, Or.inr rfl, Or.inr rfl, Or.inr rfl, Or.inr rfl, Or.inr rfl, Or.inr rfl, Or.inr rfl, Or.inr rfl, Or.inr rfl, Or.inl rfl, Or.inr rfl, Or.inl rfl, Or.inr rfl, Or.inr rfl, Or.inr rfl, trivial⟩
    · rw [if_neg (show ¬ (v101.1 ≤ y104) from c158)] at h
      refine go_aload_n (pc' := 368) dL_asks_367 rfl rfl (Nat.le_of_ble_eq_true rfl) ?_
      refine go_iload (pc' := 370) dL_asks_368 rfl rfl ?_
      refine go_iload (pc' := 372) dL_asks_370 rfl rfl ?_
      obtain ⟨v138, k139, h⟩ := bd h
      obtain ⟨g140, h⟩ := gd h
      have k139 := l_C_picked (d + 240) n e106 σ105 z94 y104 _ k139
      rw [g140] at k139
      refine go_call (kc := 129) (Mc := mt129) (v := some (pvI v138.2)) (w' := (true, n, e106, σ105)) (pc' := 375) (st' := [pvI v138.2]) [pvR 10 0 0, pvI z94, pvI y104] [] (Or.inl rfl) dL_asks_372 rfl rm_12_92 mtE129 rfl rfl rfl (Nat.le_of_ble_eq_true rfl) (Or.inr ⟨_, _, 0, rfl, Or.inl rfl⟩) k139 rfl ?_
      refine go_istore (L' := [some (pvR 10 0 0), none, some (pvI z89), some (pvI z90), some (pvI z91), some (pvI z92), some (pvI z93), none, none, none, none, some (pvI z94), some (pvI z95), some (pvI z96), none, some (pvI v101.1), some (pvL y103), none, some (pvI y104), some (pvI v138.2), none, none]) (pc' := 377) dL_asks_375 rfl (Nat.le_of_ble_eq_true rfl) rfl ?_
      refine go_aload_n (pc' := 378) dL_asks_377 rfl rfl (Nat.le_of_ble_eq_true rfl) ?_
      refine go_iload (pc' := 380) dL_asks_378 rfl rfl ?_
      obtain ⟨j141, k142, h⟩ := bd h
      have k142J : Go none (Ev (d + 243)) mt123 389 [some (pvR 10 0 0), none, some (pvI z89), some (pvI z90), some (pvI z91), some (pvI z92), some (pvI z93), none, none, none, none, some (pvI z94), some (pvI z95), some (pvI z96), none, some (pvI v101.1), some (pvL y103), none, some (pvI y104), some (pvI v138.2), none, none] [pvI j141, pvR 10 0 0] (true, n, e106, σ105) (0, some (pvI r.1), true, n, r.2.1, r.2.2) := by
        refine go_iload (pc' := 391) dL_asks_389 rfl rfl ?_
        refine go_iconst (pc' := 392) dL_asks_391 rfl (r32_c rfl) ?_
        obtain ⟨j143, k144, h⟩ := bd h
        have k144J : Go none (Ev (d + 243)) mt123 402 [some (pvR 10 0 0), none, some (pvI z89), some (pvI z90), some (pvI z91), some (pvI z92), some (pvI z93), none, none, none, none, some (pvI z94), some (pvI z95), some (pvI z96), none, some (pvI v101.1), some (pvL y103), none, some (pvI y104), some (pvI v138.2), none, none] [pvI j143, pvI j141, pvR 10 0 0] (true, n, e106, σ105) (0, some (pvI r.1), true, n, r.2.1, r.2.2) := by
          refine go_iload (pc' := 404) dL_asks_402 rfl rfl ?_
          refine go_iconst (pc' := 405) dL_asks_404 rfl (r32_c rfl) ?_
          obtain ⟨j145, k146, h⟩ := bd h
          have k146J : Go none (Ev (d + 243)) mt123 415 [some (pvR 10 0 0), none, some (pvI z89), some (pvI z90), some (pvI z91), some (pvI z92), some (pvI z93), none, none, none, none, some (pvI z94), some (pvI z95), some (pvI z96), none, some (pvI v101.1), some (pvL y103), none, some (pvI y104), some (pvI v138.2), none, none] [pvI j145, pvI j143, pvI j141, pvR 10 0 0] (true, n, e106, σ105) (0, some (pvI r.1), true, n, r.2.1, r.2.2) := by
            refine go_iload (pc' := 417) dL_asks_415 rfl rfl ?_
            obtain ⟨v147, k148, h⟩ := bd h
            obtain ⟨g149, h⟩ := gd h
            have k148 := l_C_cellAnew (d + 1) n e106 σ105 j141 j143 j145 z93 _ k148
            rw [g149] at k148
            refine go_call (kc := 117) (Mc := mt117) (v := some (pvL v147.2.1)) (w' := (true, n, e106, v147.2.2)) (pc' := 420) (st' := [pvL v147.2.1]) [pvR 10 0 0, pvI j141, pvI j143, pvI j145, pvI z93] [] (Or.inl rfl) dL_asks_417 rfl rm_12_64 mtE117 rfl rfl rfl (Nat.le_of_ble_eq_true rfl) (Or.inr ⟨_, _, 0, rfl, Or.inl rfl⟩) k148 rfl ?_
            refine go_lstore (L' := [some (pvR 10 0 0), none, some (pvI z89), some (pvI z90), some (pvI z91), some (pvI z92), some (pvI z93), none, none, none, none, some (pvI z94), some (pvI z95), some (pvI z96), none, some (pvI v101.1), some (pvL y103), none, some (pvI y104), some (pvI v138.2), some (pvL v147.2.1), none]) (pc' := 422) dL_asks_420 rfl (Nat.le_of_ble_eq_true rfl) rfl ?_
            refine go_lload (pc' := 424) dL_asks_422 rfl rfl ?_
            refine go_ldc2 (pc' := 427) dL_asks_424 rfl (r64_c rfl) rc_12_68 ?_
            refine go_lcmp (pc' := 428) dL_asks_427 rfl ?_
            refine go_if_eq (t := 439) (pc' := 431) dL_asks_428 rfl rfl (fun c154 => ?_) (fun c154 => ?_)
            · rw [if_pos (show (lcm v147.2.1 (-9223372036854775808)) = 0 from c154)] at h
              refine go_iconst (pc' := 440) dL_asks_439 rfl (r32_c rfl) ?_
              obtain ⟨g150, h⟩ := gd h
              cases h
              exact go_zret dL_asks_440 rfl g150 rfl
            · rw [if_neg (show ¬ ((lcm v147.2.1 (-9223372036854775808)) = 0) from c154)] at h
              refine go_lload (pc' := 433) dL_asks_431 rfl rfl ?_
              refine go_lload (pc' := 435) dL_asks_433 rfl rfl ?_
              refine go_lcmp (pc' := 436) dL_asks_435 rfl ?_
              refine go_if_le (t := 441) (pc' := 439) dL_asks_436 rfl rfl (fun c153 => ?_) (fun c153 => ?_)
              · rw [if_pos (show (lcm v147.2.1 y103) ≤ 0 from c153)] at h
                refine go_lload (pc' := 443) dL_asks_441 rfl rfl ?_
                refine go_lstore (L' := [some (pvR 10 0 0), none, some (pvI z89), some (pvI z90), some (pvI z91), some (pvI z92), some (pvI z93), none, none, none, none, some (pvI z94), some (pvI z95), some (pvI z96), none, some (pvI v101.1), some (pvL v147.2.1), none, some (pvI y104), some (pvI v138.2), some (pvL v147.2.1), none]) (pc' := 445) dL_asks_443 rfl (Nat.le_of_ble_eq_true rfl) rfl ?_
                obtain ⟨g151, h⟩ := gd h
                refine go_iinc (L' := [some (pvR 10 0 0), none, some (pvI z89), some (pvI z90), some (pvI z91), some (pvI z92), some (pvI z93), none, none, none, none, some (pvI z94), some (pvI z95), some (pvI z96), none, some (pvI v101.1), some (pvL v147.2.1), none, some (pvI (y104 + 1)), some (pvI v138.2), some (pvL v147.2.1), none]) (pc' := 448) dL_asks_445 rfl rfl g151 rfl ?_
                refine go_goto (t := 360) dL_asks_448 rfl ?_
                exact go_sub (ih v147.2.1 (y104 + 1) v147.2.2 e106 _ h) ⟨Or.inr rfl, Or.inr rfl, Or.inr rfl, Or.inr rfl, Or.inr rfl, Or.inr rfl, Or.inr rfl, Or.inr rfl, Or.inr rfl, Or.inr rfl, Or.inr rfl, Or.inr rfl, Or.inr rfl, Or.inr rfl, Or.inr rfl, Or.inr rfl, Or.inr rfl, Or.inr rfl, Or.inr rfl, Or.inl rfl, Or.inl rfl, Or.inr rfl, trivial⟩
              · rw [if_neg (show ¬ ((lcm v147.2.1 y103) ≤ 0) from c153)] at h
                refine go_iconst (pc' := 440) dL_asks_439 rfl (r32_c rfl) ?_
                obtain ⟨g152, h⟩ := gd h
                cases h
                exact go_zret dL_asks_440 rfl g152 rfl
          clear h
          have h := k146
          refine go_icmp_ne (t := 413) (pc' := 408) dL_asks_405 rfl rfl (fun c155 => ?_) (fun c155 => ?_)
          · rw [if_pos (show z94 ≠ 2 from c155)] at h
            refine go_iload (pc' := 415) dL_asks_413 rfl rfl ?_
            cases h
            exact k146J
          · rw [if_neg (show ¬ (z94 ≠ 2) from c155)] at h
            refine go_iload (pc' := 410) dL_asks_408 rfl rfl ?_
            refine go_goto (t := 415) dL_asks_410 rfl ?_
            cases h
            exact k146J
        clear h
        have h := k144
        refine go_icmp_ne (t := 400) (pc' := 395) dL_asks_392 rfl rfl (fun c156 => ?_) (fun c156 => ?_)
        · rw [if_pos (show z94 ≠ 1 from c156)] at h
          refine go_iload (pc' := 402) dL_asks_400 rfl rfl ?_
          cases h
          exact k144J
        · rw [if_neg (show ¬ (z94 ≠ 1) from c156)] at h
          refine go_iload (pc' := 397) dL_asks_395 rfl rfl ?_
          refine go_goto (t := 402) dL_asks_397 rfl ?_
          cases h
          exact k144J
      clear h
      have h := k142
      refine go_if_ne (t := 388) (pc' := 383) dL_asks_380 rfl rfl (fun c157 => ?_) (fun c157 => ?_)
      · rw [if_pos (show z94 ≠ 0 from c157)] at h
        refine go_iload_n (pc' := 389) dL_asks_388 rfl rfl ?_
        cases h
        exact k142J
      · rw [if_neg (show ¬ (z94 ≠ 0) from c157)] at h
        refine go_iload (pc' := 385) dL_asks_383 rfl rfl ?_
        refine go_goto (t := 389) dL_asks_385 rfl ?_
        cases h
        exact k142J

set_option maxRecDepth 10000 in
theorem l_L_asks_c332 (d : Nat) (n : Nat) (σ97 : Hp) (e98 : Nat) (z89 : Int) (z90 : Int) (z91 : Int) (z92 : Int) (z93 : Int) (z94 : Int) (z95 : Int) (z96 : Int) (r : Int × Nat × Hp) (h : f_L_asks_c332 σ97 e98 z89 z90 z91 z92 z93 z94 z95 z96 = some r) : Go none (Ev (d + 243)) mt123 332 [some (pvR 10 0 0), none, some (pvI z89), some (pvI z90), some (pvI z91), some (pvI z92), some (pvI z93), none, none, none, none, some (pvI z94), some (pvI z95), some (pvI z96), none, none, none, none, none, none, none, none] [] (true, n, e98, σ97) (0, some (pvI r.1), true, n, r.2.1, r.2.2) := by
  unfold f_L_asks_c332 at h
  refine go_aload_n (pc' := 333) dL_asks_332 rfl rfl (Nat.le_of_ble_eq_true rfl) ?_
  refine go_iload (pc' := 335) dL_asks_333 rfl rfl ?_
  refine go_iconst (pc' := 336) dL_asks_335 rfl (r32_c rfl) ?_
  refine go_iload_n (pc' := 337) dL_asks_336 rfl rfl ?_
  refine go_bipush (pc' := 339) dL_asks_337 rfl (r32_c rfl) (by decide) ?_
  refine go_ishr (pc' := 340) dL_asks_339 rfl ?_
  refine go_iconst (pc' := 341) dL_asks_340 rfl (r32_c rfl) ?_
  obtain ⟨v99, k100, h⟩ := bd h
  have k100 := l_L_low (d + 242) n e98 σ97 (ishr z89 6) 4 _ k100
  refine go_call (kc := 41) (Mc := mt41) (v := some (pvI v99)) (w' := (true, n, e98, σ97)) (pc' := 344) (st' := [pvI v99, pvI 2, pvI z94, pvR 10 0 0]) [pvI (ishr z89 6), pvI 4] [pvI 2, pvI z94, pvR 10 0 0] (Or.inr (Or.inl rfl)) dL_asks_341 rfl rm_12_59 mtE41 rfl rfl rfl (Nat.le_of_ble_eq_true rfl) (Or.inl (by decide)) k100 rfl ?_
  refine go_iload (pc' := 346) dL_asks_344 rfl rfl ?_
  refine go_iconst (pc' := 347) dL_asks_346 rfl (r32_c rfl) ?_
  obtain ⟨v101, k102, h⟩ := bd h
  have k102 := l_L_picks (d + 0) n e98 σ97 z94 2 v99 z93 3 _ k102
  refine go_call (kc := 83) (Mc := mt83) (v := some (pvI v101.1)) (w' := (true, n, v101.2.1, v101.2.2)) (pc' := 350) (st' := [pvI v101.1]) [pvR 10 0 0, pvI z94, pvI 2, pvI v99, pvI z93, pvI 3] [] (Or.inr (Or.inl rfl)) dL_asks_347 rfl rm_12_88 mtE83 rfl rfl rfl (Nat.le_of_ble_eq_true rfl) (Or.inl (by decide)) k102 rfl ?_
  refine go_istore (L' := [some (pvR 10 0 0), none, some (pvI z89), some (pvI z90), some (pvI z91), some (pvI z92), some (pvI z93), none, none, none, none, some (pvI z94), some (pvI z95), some (pvI z96), none, some (pvI v101.1), none, none, none, none, none, none]) (pc' := 352) dL_asks_350 rfl (Nat.le_of_ble_eq_true rfl) rfl ?_
  refine go_ldc2 (pc' := 355) dL_asks_352 rfl (r64_c rfl) rc_12_95 ?_
  refine go_lstore (L' := [some (pvR 10 0 0), none, some (pvI z89), some (pvI z90), some (pvI z91), some (pvI z92), some (pvI z93), none, none, none, none, some (pvI z94), some (pvI z95), some (pvI z96), none, some (pvI v101.1), some (pvL 9223372036854775807), none, none, none, none, none]) (pc' := 357) dL_asks_355 rfl (Nat.le_of_ble_eq_true rfl) rfl ?_
  refine go_iconst (pc' := 358) dL_asks_357 rfl (r32_c rfl) ?_
  refine go_istore (L' := [some (pvR 10 0 0), none, some (pvI z89), some (pvI z90), some (pvI z91), some (pvI z92), some (pvI z93), none, none, none, none, some (pvI z94), some (pvI z95), some (pvI z96), none, some (pvI v101.1), some (pvL 9223372036854775807), none, some (pvI 0), none, none, none]) (pc' := 360) dL_asks_358 rfl (Nat.le_of_ble_eq_true rfl) rfl ?_
  exact l_L_asks_360 d n v101.2.1 z89 z90 z91 z92 z93 z94 z95 z96 v101 zFuel 9223372036854775807 0 v101.2.2 v101.2.1 _ h

set_option maxRecDepth 10000 in
theorem l_L_asks_263 (d : Nat) (n : Nat) (e : Nat) (z59 : Int) (z60 : Int) (z61 : Int) (z62 : Int) (z63 : Int) (v69 : Int) (v84 : Int × Nat × Hp) : ∀ (F : Nat) (y86 : Int) (y87 : Int) (e88 : Nat) (r : Int × Nat × Hp), f_L_asks_263 z59 z60 z61 z62 z63 v69 v84 F y86 y87 e88 = some r → Go none (Ev (d + 243)) mt123 263 [some (pvR 10 0 0), some (pvR 12 5 129), some (pvI z59), some (pvI z60), some (pvI z61), some (pvI z62), some (pvI z63), none, none, none, none, some (pvI v69), some (pvI (Int.tmod (v69 + 1) 3)), some (pvI v84.1), some (pvI y86), some (pvI y87), none, none, none, none, none, none] [] (true, n, e88, v84.2.2) (0, some (pvI r.1), true, n, r.2.1, r.2.2) := by
  intro F
  induction F with
  | zero =>
    intro _ _ _ _ h
    rw [f_L_asks_263] at h
    cases h
  | succ F ih =>
    intro y86 y87 e88 r h
    rw [f_L_asks_263] at h
    refine go_iload (pc' := 265) dL_asks_263 rfl rfl ?_
    refine go_iload (pc' := 267) dL_asks_265 rfl rfl ?_
    refine go_icmp_ge (t := 332) (pc' := 270) dL_asks_267 rfl rfl (fun c177 => ?_) (fun c177 => ?_)
    · rw [if_pos (show v84.1 ≤ y87 from c177)] at h
      exact go_sub (l_L_asks_c332 d n v84.2.2 e88 z59 z60 z61 z62 z63 v69 (Int.tmod (v69 + 1) 3) v84.1 _ h) ⟨Or.inr rfl, Or.inl rfl, Or.inr rfl, Or.inr rfl, Or.inr rfl, Or.inr rfl, Or.inr rfl, Or.inr rfl, Or.inr rfl, Or.inr rfl, Or.inr rfl, Or.inr rfl, Or.inr rfl, Or.inr rfl, Or.inl rfl, Or.inl rfl, Or.inr rfl, Or.inr rfl, Or.inr rfl, Or.inr rfl, Or.inr rfl, Or.inr rfl, trivial⟩
    · rw [if_neg (show ¬ (v84.1 ≤ y87) from c177)] at h
      refine go_aload_n (pc' := 271) dL_asks_270 rfl rfl (Nat.le_of_ble_eq_true rfl) ?_
      refine go_iload (pc' := 273) dL_asks_271 rfl rfl ?_
      refine go_iload (pc' := 275) dL_asks_273 rfl rfl ?_
      obtain ⟨v159, k160, h⟩ := bd h
      obtain ⟨g161, h⟩ := gd h
      have k160 := l_C_picked (d + 240) n e88 v84.2.2 v69 y87 _ k160
      rw [g161] at k160
      refine go_call (kc := 129) (Mc := mt129) (v := some (pvI v159.2)) (w' := (true, n, e88, v84.2.2)) (pc' := 278) (st' := [pvI v159.2]) [pvR 10 0 0, pvI v69, pvI y87] [] (Or.inl rfl) dL_asks_275 rfl rm_12_92 mtE129 rfl rfl rfl (Nat.le_of_ble_eq_true rfl) (Or.inr ⟨_, _, 0, rfl, Or.inl rfl⟩) k160 rfl ?_
      refine go_istore (L' := [some (pvR 10 0 0), some (pvR 12 5 129), some (pvI z59), some (pvI z60), some (pvI z61), some (pvI z62), some (pvI z63), none, none, none, none, some (pvI v69), some (pvI (Int.tmod (v69 + 1) 3)), some (pvI v84.1), some (pvI y86), some (pvI y87), some (pvI v159.2), none, none, none, none, none]) (pc' := 280) dL_asks_278 rfl (Nat.le_of_ble_eq_true rfl) rfl ?_
      refine go_iload (pc' := 282) dL_asks_280 rfl rfl ?_
      refine go_iload (pc' := 284) dL_asks_282 rfl rfl ?_
      refine go_icmp_le (t := 320) (pc' := 287) dL_asks_284 rfl rfl (fun c176 => ?_) (fun c176 => ?_)
      · rw [if_pos (show v159.2 ≤ y86 from c176)] at h
        refine go_iconst (pc' := 321) dL_asks_320 rfl (r32_c rfl) ?_
        obtain ⟨g162, h⟩ := gd h
        cases h
        exact go_zret dL_asks_321 rfl g162 rfl
      · rw [if_neg (show ¬ (v159.2 ≤ y86) from c176)] at h
        refine go_aload_n (pc' := 288) dL_asks_287 rfl rfl (Nat.le_of_ble_eq_true rfl) ?_
        refine go_iload (pc' := 290) dL_asks_288 rfl rfl ?_
        refine go_iload (pc' := 292) dL_asks_290 rfl rfl ?_
        refine go_iconst (pc' := 293) dL_asks_292 rfl (r32_c rfl) ?_
        obtain ⟨v163, k164, h⟩ := bd h
        obtain ⟨g165, h⟩ := gd h
        have k164 := l_C_memberAt (d + 240) n e88 v84.2.2 v69 v159.2 2 _ k164
        rw [g165] at k164
        refine go_call (kc := 115) (Mc := mt115) (v := some (pvI v163.2)) (w' := (true, n, e88, v84.2.2)) (pc' := 296) (st' := [pvI v163.2]) [pvR 10 0 0, pvI v69, pvI v159.2, pvI 2] [] (Or.inl rfl) dL_asks_293 rfl rm_12_56 mtE115 rfl rfl rfl (Nat.le_of_ble_eq_true rfl) (Or.inr ⟨_, _, 0, rfl, Or.inl rfl⟩) k164 rfl ?_
        refine go_iload_n (pc' := 297) dL_asks_296 rfl rfl ?_
        refine go_bipush (pc' := 299) dL_asks_297 rfl (r32_c rfl) (by decide) ?_
        refine go_ishr (pc' := 300) dL_asks_299 rfl ?_
        refine go_iconst (pc' := 301) dL_asks_300 rfl (r32_c rfl) ?_
        obtain ⟨v166, k167, h⟩ := bd h
        have k167 := l_L_low (d + 242) n e88 v84.2.2 (ishr z59 6) 4 _ k167
        refine go_call (kc := 41) (Mc := mt41) (v := some (pvI v166)) (w' := (true, n, e88, v84.2.2)) (pc' := 304) (st' := [pvI v166, pvI v163.2]) [pvI (ishr z59 6), pvI 4] [pvI v163.2] (Or.inr (Or.inl rfl)) dL_asks_301 rfl rm_12_59 mtE41 rfl rfl rfl (Nat.le_of_ble_eq_true rfl) (Or.inl (by decide)) k167 rfl ?_
        refine go_icmp_ne (t := 320) (pc' := 307) dL_asks_304 rfl rfl (fun c175 => ?_) (fun c175 => ?_)
        · rw [if_pos (show v163.2 ≠ v166 from c175)] at h
          refine go_iconst (pc' := 321) dL_asks_320 rfl (r32_c rfl) ?_
          obtain ⟨g168, h⟩ := gd h
          cases h
          exact go_zret dL_asks_321 rfl g168 rfl
        · rw [if_neg (show ¬ (v163.2 ≠ v166) from c175)] at h
          refine go_aload_n (pc' := 308) dL_asks_307 rfl rfl (Nat.le_of_ble_eq_true rfl) ?_
          refine go_iload (pc' := 310) dL_asks_308 rfl rfl ?_
          refine go_iload (pc' := 312) dL_asks_310 rfl rfl ?_
          refine go_iconst (pc' := 313) dL_asks_312 rfl (r32_c rfl) ?_
          obtain ⟨v169, k170, h⟩ := bd h
          obtain ⟨g171, h⟩ := gd h
          have k170 := l_C_memberAt (d + 240) n e88 v84.2.2 v69 v159.2 4 _ k170
          rw [g171] at k170
          refine go_call (kc := 115) (Mc := mt115) (v := some (pvI v169.2)) (w' := (true, n, e88, v84.2.2)) (pc' := 316) (st' := [pvI v169.2]) [pvR 10 0 0, pvI v69, pvI v159.2, pvI 4] [] (Or.inl rfl) dL_asks_313 rfl rm_12_56 mtE115 rfl rfl rfl (Nat.le_of_ble_eq_true rfl) (Or.inr ⟨_, _, 0, rfl, Or.inl rfl⟩) k170 rfl ?_
          refine go_iconst (pc' := 317) dL_asks_316 rfl (r32_c rfl) ?_
          refine go_icmp_eq (t := 322) (pc' := 320) dL_asks_317 rfl rfl (fun c174 => ?_) (fun c174 => ?_)
          · rw [if_pos (show v169.2 = 1 from c174)] at h
            refine go_iload (pc' := 324) dL_asks_322 rfl rfl ?_
            refine go_istore (L' := [some (pvR 10 0 0), some (pvR 12 5 129), some (pvI z59), some (pvI z60), some (pvI z61), some (pvI z62), some (pvI z63), none, none, none, none, some (pvI v69), some (pvI (Int.tmod (v69 + 1) 3)), some (pvI v84.1), some (pvI v159.2), some (pvI y87), some (pvI v159.2), none, none, none, none, none]) (pc' := 326) dL_asks_324 rfl (Nat.le_of_ble_eq_true rfl) rfl ?_
            obtain ⟨g172, h⟩ := gd h
            refine go_iinc (L' := [some (pvR 10 0 0), some (pvR 12 5 129), some (pvI z59), some (pvI z60), some (pvI z61), some (pvI z62), some (pvI z63), none, none, none, none, some (pvI v69), some (pvI (Int.tmod (v69 + 1) 3)), some (pvI v84.1), some (pvI v159.2), some (pvI (y87 + 1)), some (pvI v159.2), none, none, none, none, none]) (pc' := 329) dL_asks_326 rfl rfl g172 rfl ?_
            refine go_goto (t := 263) dL_asks_329 rfl ?_
            exact go_sub (ih v159.2 (y87 + 1) e88 _ h) ⟨Or.inr rfl, Or.inr rfl, Or.inr rfl, Or.inr rfl, Or.inr rfl, Or.inr rfl, Or.inr rfl, Or.inr rfl, Or.inr rfl, Or.inr rfl, Or.inr rfl, Or.inr rfl, Or.inr rfl, Or.inr rfl, Or.inr rfl, Or.inr rfl, Or.inl rfl, Or.inr rfl, Or.inr rfl, Or.inr rfl, Or.inr rfl, Or.inr rfl, trivial⟩
          · rw [if_neg (show ¬ (v169.2 = 1) from c174)] at h
            refine go_iconst (pc' := 321) dL_asks_320 rfl (r32_c rfl) ?_
            obtain ⟨g173, h⟩ := gd h
            cases h
            exact go_zret dL_asks_321 rfl g173 rfl

set_option maxRecDepth 10000 in
theorem l_L_asks_c190 (d : Nat) (n : Nat) (σ64 : Hp) (e65 : Nat) (z59 : Int) (z60 : Int) (z61 : Int) (z62 : Int) (z63 : Int) (r : Int × Nat × Hp) (h : f_L_asks_c190 σ64 e65 z59 z60 z61 z62 z63 = some r) : Go none (Ev (d + 243)) mt123 190 [some (pvR 10 0 0), some (pvR 12 5 129), some (pvI z59), some (pvI z60), some (pvI z61), some (pvI z62), some (pvI z63), none, none, none, none, none, none, none, none, none, none, none, none, none, none, none] [] (true, n, e65, σ64) (0, some (pvI r.1), true, n, r.2.1, r.2.2) := by
  unfold f_L_asks_c190 at h
  refine go_aload_n (pc' := 191) dL_asks_190 rfl rfl (Nat.le_of_ble_eq_true rfl) ?_
  refine go_iconst (pc' := 192) dL_asks_191 rfl (r32_c rfl) ?_
  refine go_aload_n (pc' := 193) dL_asks_192 rfl rfl (Nat.le_of_ble_eq_true rfl) ?_
  obtain ⟨v66, k67, h⟩ := bd h
  have k67 := l_C_hits (d + 242) n e65 σ64 _ k67
  refine go_call (kc := 121) (Mc := mt121) (v := some (pvI v66)) (w' := (true, n, e65, σ64)) (pc' := 196) (st' := [pvI v66, pvI 4, pvR 12 5 129]) [pvR 10 0 0] [pvI 4, pvR 12 5 129] (Or.inl rfl) dL_asks_193 rfl rm_12_79 mtE121 rfl rfl rfl (Nat.le_of_ble_eq_true rfl) (Or.inr ⟨_, _, 0, rfl, Or.inl rfl⟩) k67 rfl ?_
  obtain ⟨g68, h⟩ := gd h
  refine go_iast (pc' := 197) dL_asks_196 rfl g68 ?_
  refine go_iload_n (pc' := 198) dL_asks_197 rfl rfl ?_
  refine go_iconst (pc' := 199) dL_asks_198 rfl (r32_c rfl) ?_
  refine go_ishr (pc' := 200) dL_asks_199 rfl ?_
  refine go_iconst (pc' := 201) dL_asks_200 rfl (r32_c rfl) ?_
  obtain ⟨v69, k70, h⟩ := bd h
  have k70 := l_L_low (d + 242) n e65 (hset σ64 129 4 v66) (ishr z59 4) 3 _ k70
  refine go_call (kc := 41) (Mc := mt41) (v := some (pvI v69)) (w' := (true, n, e65, (hset σ64 129 4 v66))) (pc' := 204) (st' := [pvI v69]) [pvI (ishr z59 4), pvI 3] [] (Or.inr (Or.inl rfl)) dL_asks_201 rfl rm_12_59 mtE41 rfl rfl rfl (Nat.le_of_ble_eq_true rfl) (Or.inl (by decide)) k70 rfl ?_
  refine go_istore (L' := [some (pvR 10 0 0), some (pvR 12 5 129), some (pvI z59), some (pvI z60), some (pvI z61), some (pvI z62), some (pvI z63), none, none, none, none, some (pvI v69), none, none, none, none, none, none, none, none, none, none]) (pc' := 206) dL_asks_204 rfl (Nat.le_of_ble_eq_true rfl) rfl ?_
  refine go_iload (pc' := 208) dL_asks_206 rfl rfl ?_
  refine go_iconst (pc' := 209) dL_asks_208 rfl (r32_c rfl) ?_
  obtain ⟨g71, h⟩ := gd h
  refine go_iadd (pc' := 210) dL_asks_209 rfl g71 ?_
  refine go_iconst (pc' := 211) dL_asks_210 rfl (r32_c rfl) ?_
  obtain ⟨g72, h⟩ := gd h
  refine go_irem (pc' := 212) dL_asks_211 rfl g72 ?_
  refine go_istore (L' := [some (pvR 10 0 0), some (pvR 12 5 129), some (pvI z59), some (pvI z60), some (pvI z61), some (pvI z62), some (pvI z63), none, none, none, none, some (pvI v69), some (pvI (Int.tmod (v69 + 1) 3)), none, none, none, none, none, none, none, none, none]) (pc' := 214) dL_asks_212 rfl (Nat.le_of_ble_eq_true rfl) rfl ?_
  refine go_aload_n (pc' := 215) dL_asks_214 rfl rfl (Nat.le_of_ble_eq_true rfl) ?_
  refine go_iconst (pc' := 216) dL_asks_215 rfl (r32_c rfl) ?_
  refine go_iload_n (pc' := 217) dL_asks_216 rfl rfl ?_
  obtain ⟨v73, k74, h⟩ := bd h
  obtain ⟨g75, h⟩ := gd h
  have k74 := l_C_at (d + 240) n e65 (hset σ64 129 4 v66) 0 z60 _ k74
  rw [g75] at k74
  refine go_call (kc := 128) (Mc := mt128) (v := some (pvI v73.2.1)) (w' := (true, n, e65, v73.2.2)) (pc' := 220) (st' := [pvI v73.2.1]) [pvR 10 0 0, pvI 0, pvI z60] [] (Or.inl rfl) dL_asks_217 rfl rm_12_85 mtE128 rfl rfl rfl (Nat.le_of_ble_eq_true rfl) (Or.inr ⟨_, _, 0, rfl, Or.inl rfl⟩) k74 rfl ?_
  refine go_pop (pc' := 221) dL_asks_220 rfl (Nat.ne_of_beq_eq_false rfl) ?_
  refine go_aload_n (pc' := 222) dL_asks_221 rfl rfl (Nat.le_of_ble_eq_true rfl) ?_
  refine go_iconst (pc' := 223) dL_asks_222 rfl (r32_c rfl) ?_
  refine go_iload (pc' := 225) dL_asks_223 rfl rfl ?_
  obtain ⟨v76, k77, h⟩ := bd h
  obtain ⟨g78, h⟩ := gd h
  have k77 := l_C_at (d + 240) n e65 v73.2.2 1 z61 _ k77
  rw [g78] at k77
  refine go_call (kc := 128) (Mc := mt128) (v := some (pvI v76.2.1)) (w' := (true, n, e65, v76.2.2)) (pc' := 228) (st' := [pvI v76.2.1]) [pvR 10 0 0, pvI 1, pvI z61] [] (Or.inl rfl) dL_asks_225 rfl rm_12_85 mtE128 rfl rfl rfl (Nat.le_of_ble_eq_true rfl) (Or.inr ⟨_, _, 0, rfl, Or.inl rfl⟩) k77 rfl ?_
  refine go_pop (pc' := 229) dL_asks_228 rfl (Nat.ne_of_beq_eq_false rfl) ?_
  refine go_aload_n (pc' := 230) dL_asks_229 rfl rfl (Nat.le_of_ble_eq_true rfl) ?_
  refine go_iconst (pc' := 231) dL_asks_230 rfl (r32_c rfl) ?_
  refine go_iload (pc' := 233) dL_asks_231 rfl rfl ?_
  obtain ⟨v79, k80, h⟩ := bd h
  obtain ⟨g81, h⟩ := gd h
  have k80 := l_C_at (d + 240) n e65 v76.2.2 2 z62 _ k80
  rw [g81] at k80
  refine go_call (kc := 128) (Mc := mt128) (v := some (pvI v79.2.1)) (w' := (true, n, e65, v79.2.2)) (pc' := 236) (st' := [pvI v79.2.1]) [pvR 10 0 0, pvI 2, pvI z62] [] (Or.inl rfl) dL_asks_233 rfl rm_12_85 mtE128 rfl rfl rfl (Nat.le_of_ble_eq_true rfl) (Or.inr ⟨_, _, 0, rfl, Or.inl rfl⟩) k80 rfl ?_
  refine go_pop (pc' := 237) dL_asks_236 rfl (Nat.ne_of_beq_eq_false rfl) ?_
  refine go_aload_n (pc' := 238) dL_asks_237 rfl rfl (Nat.le_of_ble_eq_true rfl) ?_
  refine go_iload (pc' := 240) dL_asks_238 rfl rfl ?_
  refine go_iconst (pc' := 241) dL_asks_240 rfl (r32_c rfl) ?_
  refine go_iload_n (pc' := 242) dL_asks_241 rfl rfl ?_
  refine go_bipush (pc' := 244) dL_asks_242 rfl (r32_c rfl) (by decide) ?_
  refine go_ishr (pc' := 245) dL_asks_244 rfl ?_
  refine go_iconst (pc' := 246) dL_asks_245 rfl (r32_c rfl) ?_
  obtain ⟨v82, k83, h⟩ := bd h
  have k83 := l_L_low (d + 242) n e65 v79.2.2 (ishr z59 6) 4 _ k83
  refine go_call (kc := 41) (Mc := mt41) (v := some (pvI v82)) (w' := (true, n, e65, v79.2.2)) (pc' := 249) (st' := [pvI v82, pvI 2, pvI v69, pvR 10 0 0]) [pvI (ishr z59 6), pvI 4] [pvI 2, pvI v69, pvR 10 0 0] (Or.inr (Or.inl rfl)) dL_asks_246 rfl rm_12_59 mtE41 rfl rfl rfl (Nat.le_of_ble_eq_true rfl) (Or.inl (by decide)) k83 rfl ?_
  refine go_iload (pc' := 251) dL_asks_249 rfl rfl ?_
  refine go_iconst (pc' := 252) dL_asks_251 rfl (r32_c rfl) ?_
  obtain ⟨v84, k85, h⟩ := bd h
  have k85 := l_L_picks (d + 0) n e65 v79.2.2 v69 2 v82 z63 0 _ k85
  refine go_call (kc := 83) (Mc := mt83) (v := some (pvI v84.1)) (w' := (true, n, v84.2.1, v84.2.2)) (pc' := 255) (st' := [pvI v84.1]) [pvR 10 0 0, pvI v69, pvI 2, pvI v82, pvI z63, pvI 0] [] (Or.inr (Or.inl rfl)) dL_asks_252 rfl rm_12_88 mtE83 rfl rfl rfl (Nat.le_of_ble_eq_true rfl) (Or.inl (by decide)) k85 rfl ?_
  refine go_istore (L' := [some (pvR 10 0 0), some (pvR 12 5 129), some (pvI z59), some (pvI z60), some (pvI z61), some (pvI z62), some (pvI z63), none, none, none, none, some (pvI v69), some (pvI (Int.tmod (v69 + 1) 3)), some (pvI v84.1), none, none, none, none, none, none, none, none]) (pc' := 257) dL_asks_255 rfl (Nat.le_of_ble_eq_true rfl) rfl ?_
  refine go_iconst (pc' := 258) dL_asks_257 rfl (r32_c rfl) ?_
  refine go_istore (L' := [some (pvR 10 0 0), some (pvR 12 5 129), some (pvI z59), some (pvI z60), some (pvI z61), some (pvI z62), some (pvI z63), none, none, none, none, some (pvI v69), some (pvI (Int.tmod (v69 + 1) 3)), some (pvI v84.1), some (pvI (-1)), none, none, none, none, none, none, none]) (pc' := 260) dL_asks_258 rfl (Nat.le_of_ble_eq_true rfl) rfl ?_
  refine go_iconst (pc' := 261) dL_asks_260 rfl (r32_c rfl) ?_
  refine go_istore (L' := [some (pvR 10 0 0), some (pvR 12 5 129), some (pvI z59), some (pvI z60), some (pvI z61), some (pvI z62), some (pvI z63), none, none, none, none, some (pvI v69), some (pvI (Int.tmod (v69 + 1) 3)), some (pvI v84.1), some (pvI (-1)), some (pvI 0), none, none, none, none, none, none]) (pc' := 263) dL_asks_261 rfl (Nat.le_of_ble_eq_true rfl) rfl ?_
  exact l_L_asks_263 d n v84.2.1 z59 z60 z61 z62 z63 v69 v84 zFuel (-1) 0 v84.2.1 _ h

set_option maxRecDepth 10000 in
theorem l_L_asks_c134 (d : Nat) (n : Nat) (σ43 : Hp) (e44 : Nat) (z35 : Int) (z36 : Int) (z37 : Int) (z38 : Int) (z39 : Int) (z40 : Int) (z41 : Int) (z42 : Int) (r : Int × Nat × Hp) (h : f_L_asks_c134 σ43 e44 z35 z36 z37 z38 z39 z40 z41 z42 = some r) : Go none (Ev (d + 243)) mt123 134 [some (pvR 10 0 0), some (pvR 12 5 129), some (pvI z35), some (pvI z36), some (pvI z37), some (pvI z38), some (pvI z39), some (pvL z40), none, some (pvI z41), some (pvI z42), none, none, none, none, none, none, none, none, none, none, none] [] (true, n, e44, σ43) (0, some (pvI r.1), true, n, r.2.1, r.2.2) := by
  unfold f_L_asks_c134 at h
  refine go_aload_n (pc' := 135) dL_asks_134 rfl rfl (Nat.le_of_ble_eq_true rfl) ?_
  refine go_iload_n (pc' := 136) dL_asks_135 rfl rfl ?_
  refine go_iload (pc' := 138) dL_asks_136 rfl rfl ?_
  refine go_iload (pc' := 140) dL_asks_138 rfl rfl ?_
  refine go_iload (pc' := 142) dL_asks_140 rfl rfl ?_
  obtain ⟨v45, k46, h⟩ := bd h
  obtain ⟨g47, h⟩ := gd h
  have k46 := l_C_cell (d + 1) n e44 σ43 z36 z37 z38 z39 _ k46
  rw [g47] at k46
  refine go_call (kc := 124) (Mc := mt124) (v := some (pvL v45.2.1)) (w' := (true, n, e44, v45.2.2)) (pc' := 145) (st' := [pvL v45.2.1]) [pvR 10 0 0, pvI z36, pvI z37, pvI z38, pvI z39] [] (Or.inl rfl) dL_asks_142 rfl rm_12_82 mtE124 rfl rfl rfl (Nat.le_of_ble_eq_true rfl) (Or.inr ⟨_, _, 0, rfl, Or.inl rfl⟩) k46 rfl ?_
  refine go_lload (pc' := 147) dL_asks_145 rfl rfl ?_
  refine go_lcmp (pc' := 148) dL_asks_147 rfl ?_
  refine go_if_ne (t := 188) (pc' := 151) dL_asks_148 rfl rfl (fun c183 => ?_) (fun c183 => ?_)
  · rw [if_pos (show (lcm v45.2.1 z40) ≠ 0 from c183)] at h
    refine go_iconst (pc' := 189) dL_asks_188 rfl (r32_c rfl) ?_
    obtain ⟨g48, h⟩ := gd h
    cases h
    exact go_zret dL_asks_189 rfl g48 rfl
  · rw [if_neg (show ¬ ((lcm v45.2.1 z40) ≠ 0) from c183)] at h
    refine go_aload_n (pc' := 152) dL_asks_151 rfl rfl (Nat.le_of_ble_eq_true rfl) ?_
    obtain ⟨v49, k50, h⟩ := bd h
    have k50 := l_C_hits (d + 242) n e44 v45.2.2 _ k50
    refine go_call (kc := 121) (Mc := mt121) (v := some (pvI v49)) (w' := (true, n, e44, v45.2.2)) (pc' := 155) (st' := [pvI v49]) [pvR 10 0 0] [] (Or.inl rfl) dL_asks_152 rfl rm_12_79 mtE121 rfl rfl rfl (Nat.le_of_ble_eq_true rfl) (Or.inr ⟨_, _, 0, rfl, Or.inl rfl⟩) k50 rfl ?_
    refine go_iload (pc' := 157) dL_asks_155 rfl rfl ?_
    refine go_iload (pc' := 159) dL_asks_157 rfl rfl ?_
    obtain ⟨j51, k52, h⟩ := bd h
    have k52J : Go none (Ev (d + 243)) mt123 167 [some (pvR 10 0 0), some (pvR 12 5 129), some (pvI z35), some (pvI z36), some (pvI z37), some (pvI z38), some (pvI z39), some (pvL z40), none, some (pvI z41), some (pvI z42), none, none, none, none, none, none, none, none, none, none, none] [pvI j51, pvI z42, pvI v49] (true, n, e44, v45.2.2) (0, some (pvI r.1), true, n, r.2.1, r.2.2) := by
      obtain ⟨g53, h⟩ := gd h
      refine go_iadd (pc' := 168) dL_asks_167 rfl g53 ?_
      refine go_icmp_ne (t := 188) (pc' := 171) dL_asks_168 rfl rfl (fun c181 => ?_) (fun c181 => ?_)
      · rw [if_pos (show v49 ≠ (z42 + j51) from c181)] at h
        refine go_iconst (pc' := 189) dL_asks_188 rfl (r32_c rfl) ?_
        obtain ⟨g54, h⟩ := gd h
        cases h
        exact go_zret dL_asks_189 rfl g54 rfl
      · rw [if_neg (show ¬ (v49 ≠ (z42 + j51)) from c181)] at h
        refine go_aload_n (pc' := 172) dL_asks_171 rfl rfl (Nat.le_of_ble_eq_true rfl) ?_
        obtain ⟨v55, k56, h⟩ := bd h
        have k56 := l_C_kept (d + 242) n e44 v45.2.2 _ k56
        refine go_call (kc := 120) (Mc := mt120) (v := some (pvI v55)) (w' := (true, n, e44, v45.2.2)) (pc' := 175) (st' := [pvI v55]) [pvR 10 0 0] [] (Or.inl rfl) dL_asks_172 rfl rm_12_76 mtE120 rfl rfl rfl (Nat.le_of_ble_eq_true rfl) (Or.inr ⟨_, _, 0, rfl, Or.inl rfl⟩) k56 rfl ?_
        refine go_bipush (pc' := 177) dL_asks_175 rfl (r32_c rfl) (by decide) ?_
        refine go_icmp_gt (t := 188) (pc' := 180) dL_asks_177 rfl rfl (fun c180 => ?_) (fun c180 => ?_)
        · rw [if_pos (show 20 < v55 from c180)] at h
          refine go_iconst (pc' := 189) dL_asks_188 rfl (r32_c rfl) ?_
          obtain ⟨g57, h⟩ := gd h
          cases h
          exact go_zret dL_asks_189 rfl g57 rfl
        · rw [if_neg (show ¬ (20 < v55) from c180)] at h
          refine go_iload (pc' := 182) dL_asks_180 rfl rfl ?_
          refine go_aload_n (pc' := 183) dL_asks_182 rfl rfl (Nat.le_of_ble_eq_true rfl) ?_
          refine go_iconst (pc' := 184) dL_asks_183 rfl (r32_c rfl) ?_
          obtain ⟨g58, h⟩ := gd h
          refine go_iald (pc' := 185) dL_asks_184 rfl g58 ?_
          refine go_icmp_ge (t := 190) (pc' := 188) dL_asks_185 rfl rfl (fun c179 => ?_) (fun c179 => ?_)
          · rw [if_pos (show (v45.2.2 129 4) ≤ z42 from c179)] at h
            exact go_sub (l_L_asks_c190 d n v45.2.2 e44 z35 z36 z37 z38 z39 _ h) ⟨Or.inr rfl, Or.inr rfl, Or.inr rfl, Or.inr rfl, Or.inr rfl, Or.inr rfl, Or.inr rfl, Or.inl rfl, Or.inr rfl, Or.inl rfl, Or.inl rfl, Or.inr rfl, Or.inr rfl, Or.inr rfl, Or.inr rfl, Or.inr rfl, Or.inr rfl, Or.inr rfl, Or.inr rfl, Or.inr rfl, Or.inr rfl, Or.inr rfl, trivial⟩
          · rw [if_neg (show ¬ ((v45.2.2 129 4) ≤ z42) from c179)] at h
            refine go_iconst (pc' := 189) dL_asks_188 rfl (r32_c rfl) ?_
            obtain ⟨g178, h⟩ := gd h
            cases h
            exact go_zret dL_asks_189 rfl g178 rfl
    clear h
    have h := k52
    refine go_if_eq (t := 166) (pc' := 162) dL_asks_159 rfl rfl (fun c182 => ?_) (fun c182 => ?_)
    · rw [if_pos (show z41 = 0 from c182)] at h
      refine go_iconst (pc' := 167) dL_asks_166 rfl (r32_c rfl) ?_
      cases h
      exact k52J
    · rw [if_neg (show ¬ (z41 = 0) from c182)] at h
      refine go_iconst (pc' := 163) dL_asks_162 rfl (r32_c rfl) ?_
      refine go_goto (t := 167) dL_asks_163 rfl ?_
      cases h
      exact k52J

set_option maxRecDepth 10000 in
theorem l_L_asks (d : Nat) (n e : Nat) (σ : Hp) (x3 : Int) (r : Int × Nat × Hp) (h : f_L_asks σ e x3 = some r) : Ev (d + 244) 123 [pvR 10 0 0, pvR 12 5 129, pvI x3] (true, n, e, σ) (0, some (pvI r.1), true, n, r.2.1, r.2.2) := by
  unfold f_L_asks at h
  refine Ev.of mtE123 rfl rfl rfl rfl ?_
  show Go none (Ev (d + 243)) mt123 0 [some (pvR 10 0 0), some (pvR 12 5 129), some (pvI x3), none, none, none, none, none, none, none, none, none, none, none, none, none, none, none, none, none, none, none] [] (true, n, e, σ) (0, some (pvI r.1), true, n, r.2.1, r.2.2)
  refine go_iload_n (pc' := 1) dL_asks_0 rfl rfl ?_
  refine go_aload_n (pc' := 2) dL_asks_1 rfl rfl (Nat.le_of_ble_eq_true rfl) ?_
  refine go_iconst (pc' := 3) dL_asks_2 rfl (r32_c rfl) ?_
  obtain ⟨g1, h⟩ := gd h
  refine go_iald (pc' := 4) dL_asks_3 rfl g1 ?_
  obtain ⟨v2, k3, h⟩ := bd h
  have k3 := l_L_low (d + 242) n e σ x3 (σ 129 0) _ k3
  refine go_call (kc := 41) (Mc := mt41) (v := some (pvI v2)) (w' := (true, n, e, σ)) (pc' := 7) (st' := [pvI v2]) [pvI x3, pvI (σ 129 0)] [] (Or.inr (Or.inl rfl)) dL_asks_4 rfl rm_12_59 mtE41 rfl rfl rfl (Nat.le_of_ble_eq_true rfl) (Or.inl (by decide)) k3 rfl ?_
  refine go_istore_n (L' := [some (pvR 10 0 0), some (pvR 12 5 129), some (pvI x3), some (pvI v2), none, none, none, none, none, none, none, none, none, none, none, none, none, none, none, none, none, none]) (pc' := 8) dL_asks_7 rfl (Nat.le_of_ble_eq_true rfl) rfl ?_
  refine go_iload_n (pc' := 9) dL_asks_8 rfl rfl ?_
  refine go_iconst (pc' := 10) dL_asks_9 rfl (r32_c rfl) ?_
  refine go_ishr (pc' := 11) dL_asks_10 rfl ?_
  refine go_aload_n (pc' := 12) dL_asks_11 rfl rfl (Nat.le_of_ble_eq_true rfl) ?_
  refine go_iconst (pc' := 13) dL_asks_12 rfl (r32_c rfl) ?_
  obtain ⟨g4, h⟩ := gd h
  refine go_iald (pc' := 14) dL_asks_13 rfl g4 ?_
  obtain ⟨v5, k6, h⟩ := bd h
  have k6 := l_L_low (d + 242) n e σ (ishr x3 3) (σ 129 1) _ k6
  refine go_call (kc := 41) (Mc := mt41) (v := some (pvI v5)) (w' := (true, n, e, σ)) (pc' := 17) (st' := [pvI v5]) [pvI (ishr x3 3), pvI (σ 129 1)] [] (Or.inr (Or.inl rfl)) dL_asks_14 rfl rm_12_59 mtE41 rfl rfl rfl (Nat.le_of_ble_eq_true rfl) (Or.inl (by decide)) k6 rfl ?_
  refine go_istore (L' := [some (pvR 10 0 0), some (pvR 12 5 129), some (pvI x3), some (pvI v2), some (pvI v5), none, none, none, none, none, none, none, none, none, none, none, none, none, none, none, none, none]) (pc' := 19) dL_asks_17 rfl (Nat.le_of_ble_eq_true rfl) rfl ?_
  refine go_iload_n (pc' := 20) dL_asks_19 rfl rfl ?_
  refine go_iconst (pc' := 21) dL_asks_20 rfl (r32_c rfl) ?_
  refine go_ishr (pc' := 22) dL_asks_21 rfl ?_
  refine go_aload_n (pc' := 23) dL_asks_22 rfl rfl (Nat.le_of_ble_eq_true rfl) ?_
  refine go_iconst (pc' := 24) dL_asks_23 rfl (r32_c rfl) ?_
  obtain ⟨g7, h⟩ := gd h
  refine go_iald (pc' := 25) dL_asks_24 rfl g7 ?_
  obtain ⟨v8, k9, h⟩ := bd h
  have k9 := l_L_low (d + 242) n e σ (ishr x3 5) (σ 129 2) _ k9
  refine go_call (kc := 41) (Mc := mt41) (v := some (pvI v8)) (w' := (true, n, e, σ)) (pc' := 28) (st' := [pvI v8]) [pvI (ishr x3 5), pvI (σ 129 2)] [] (Or.inr (Or.inl rfl)) dL_asks_25 rfl rm_12_59 mtE41 rfl rfl rfl (Nat.le_of_ble_eq_true rfl) (Or.inl (by decide)) k9 rfl ?_
  refine go_istore (L' := [some (pvR 10 0 0), some (pvR 12 5 129), some (pvI x3), some (pvI v2), some (pvI v5), some (pvI v8), none, none, none, none, none, none, none, none, none, none, none, none, none, none, none, none]) (pc' := 30) dL_asks_28 rfl (Nat.le_of_ble_eq_true rfl) rfl ?_
  refine go_iload_n (pc' := 31) dL_asks_30 rfl rfl ?_
  refine go_bipush (pc' := 33) dL_asks_31 rfl (r32_c rfl) (by decide) ?_
  refine go_ishr (pc' := 34) dL_asks_33 rfl ?_
  refine go_aload_n (pc' := 35) dL_asks_34 rfl rfl (Nat.le_of_ble_eq_true rfl) ?_
  refine go_iconst (pc' := 36) dL_asks_35 rfl (r32_c rfl) ?_
  obtain ⟨g10, h⟩ := gd h
  refine go_iald (pc' := 37) dL_asks_36 rfl g10 ?_
  obtain ⟨v11, k12, h⟩ := bd h
  have k12 := l_L_low (d + 242) n e σ (ishr x3 7) (σ 129 3) _ k12
  refine go_call (kc := 41) (Mc := mt41) (v := some (pvI v11)) (w' := (true, n, e, σ)) (pc' := 40) (st' := [pvI v11]) [pvI (ishr x3 7), pvI (σ 129 3)] [] (Or.inr (Or.inl rfl)) dL_asks_37 rfl rm_12_59 mtE41 rfl rfl rfl (Nat.le_of_ble_eq_true rfl) (Or.inl (by decide)) k12 rfl ?_
  refine go_istore (L' := [some (pvR 10 0 0), some (pvR 12 5 129), some (pvI x3), some (pvI v2), some (pvI v5), some (pvI v8), some (pvI v11), none, none, none, none, none, none, none, none, none, none, none, none, none, none, none]) (pc' := 42) dL_asks_40 rfl (Nat.le_of_ble_eq_true rfl) rfl ?_
  refine go_aload_n (pc' := 43) dL_asks_42 rfl rfl (Nat.le_of_ble_eq_true rfl) ?_
  refine go_iload_n (pc' := 44) dL_asks_43 rfl rfl ?_
  refine go_iload (pc' := 46) dL_asks_44 rfl rfl ?_
  refine go_iload (pc' := 48) dL_asks_46 rfl rfl ?_
  refine go_iload (pc' := 50) dL_asks_48 rfl rfl ?_
  obtain ⟨v13, k14, h⟩ := bd h
  obtain ⟨g15, h⟩ := gd h
  have k14 := l_C_cell (d + 1) n e σ v2 v5 v8 v11 _ k14
  rw [g15] at k14
  refine go_call (kc := 124) (Mc := mt124) (v := some (pvL v13.2.1)) (w' := (true, n, e, v13.2.2)) (pc' := 53) (st' := [pvL v13.2.1]) [pvR 10 0 0, pvI v2, pvI v5, pvI v8, pvI v11] [] (Or.inl rfl) dL_asks_50 rfl rm_12_82 mtE124 rfl rfl rfl (Nat.le_of_ble_eq_true rfl) (Or.inr ⟨_, _, 0, rfl, Or.inl rfl⟩) k14 rfl ?_
  refine go_lstore (L' := [some (pvR 10 0 0), some (pvR 12 5 129), some (pvI x3), some (pvI v2), some (pvI v5), some (pvI v8), some (pvI v11), some (pvL v13.2.1), none, none, none, none, none, none, none, none, none, none, none, none, none, none]) (pc' := 55) dL_asks_53 rfl (Nat.le_of_ble_eq_true rfl) rfl ?_
  refine go_aload_n (pc' := 56) dL_asks_55 rfl rfl (Nat.le_of_ble_eq_true rfl) ?_
  refine go_iconst (pc' := 57) dL_asks_56 rfl (r32_c rfl) ?_
  refine go_iload_n (pc' := 58) dL_asks_57 rfl rfl ?_
  refine go_iconst (pc' := 59) dL_asks_58 rfl (r32_c rfl) ?_
  obtain ⟨v16, k17, h⟩ := bd h
  obtain ⟨g18, h⟩ := gd h
  have k17 := l_C_memberAt (d + 240) n e v13.2.2 0 v2 4 _ k17
  rw [g18] at k17
  refine go_call (kc := 115) (Mc := mt115) (v := some (pvI v16.2)) (w' := (true, n, e, v13.2.2)) (pc' := 62) (st' := [pvI v16.2]) [pvR 10 0 0, pvI 0, pvI v2, pvI 4] [] (Or.inl rfl) dL_asks_59 rfl rm_12_56 mtE115 rfl rfl rfl (Nat.le_of_ble_eq_true rfl) (Or.inr ⟨_, _, 0, rfl, Or.inl rfl⟩) k17 rfl ?_
  refine go_iconst (pc' := 63) dL_asks_62 rfl (r32_c rfl) ?_
  obtain ⟨j19, k20, h⟩ := bd h
  have k20J : Go none (Ev (d + 243)) mt123 95 [some (pvR 10 0 0), some (pvR 12 5 129), some (pvI x3), some (pvI v2), some (pvI v5), some (pvI v8), some (pvI v11), some (pvL v13.2.1), none, none, none, none, none, none, none, none, none, none, none, none, none, none] [pvI j19] (true, n, e, v13.2.2) (0, some (pvI r.1), true, n, r.2.1, r.2.2) := by
    refine go_istore (L' := [some (pvR 10 0 0), some (pvR 12 5 129), some (pvI x3), some (pvI v2), some (pvI v5), some (pvI v8), some (pvI v11), some (pvL v13.2.1), none, some (pvI j19), none, none, none, none, none, none, none, none, none, none, none, none]) (pc' := 97) dL_asks_95 rfl (Nat.le_of_ble_eq_true rfl) rfl ?_
    refine go_aload_n (pc' := 98) dL_asks_97 rfl rfl (Nat.le_of_ble_eq_true rfl) ?_
    obtain ⟨v29, k30, h⟩ := bd h
    have k30 := l_C_hits (d + 242) n e v13.2.2 _ k30
    refine go_call (kc := 121) (Mc := mt121) (v := some (pvI v29)) (w' := (true, n, e, v13.2.2)) (pc' := 101) (st' := [pvI v29]) [pvR 10 0 0] [] (Or.inl rfl) dL_asks_98 rfl rm_12_79 mtE121 rfl rfl rfl (Nat.le_of_ble_eq_true rfl) (Or.inr ⟨_, _, 0, rfl, Or.inl rfl⟩) k30 rfl ?_
    refine go_istore (L' := [some (pvR 10 0 0), some (pvR 12 5 129), some (pvI x3), some (pvI v2), some (pvI v5), some (pvI v8), some (pvI v11), some (pvL v13.2.1), none, some (pvI j19), some (pvI v29), none, none, none, none, none, none, none, none, none, none, none]) (pc' := 103) dL_asks_101 rfl (Nat.le_of_ble_eq_true rfl) rfl ?_
    refine go_lload (pc' := 105) dL_asks_103 rfl rfl ?_
    refine go_aload_n (pc' := 106) dL_asks_105 rfl rfl (Nat.le_of_ble_eq_true rfl) ?_
    refine go_iload_n (pc' := 107) dL_asks_106 rfl rfl ?_
    refine go_iload (pc' := 109) dL_asks_107 rfl rfl ?_
    refine go_iload (pc' := 111) dL_asks_109 rfl rfl ?_
    refine go_iload (pc' := 113) dL_asks_111 rfl rfl ?_
    obtain ⟨v31, k32, h⟩ := bd h
    obtain ⟨g33, h⟩ := gd h
    have k32 := l_C_cellAnew (d + 1) n e v13.2.2 v2 v5 v8 v11 _ k32
    rw [g33] at k32
    refine go_call (kc := 117) (Mc := mt117) (v := some (pvL v31.2.1)) (w' := (true, n, e, v31.2.2)) (pc' := 116) (st' := [pvL v31.2.1, pvL v13.2.1]) [pvR 10 0 0, pvI v2, pvI v5, pvI v8, pvI v11] [pvL v13.2.1] (Or.inl rfl) dL_asks_113 rfl rm_12_64 mtE117 rfl rfl rfl (Nat.le_of_ble_eq_true rfl) (Or.inr ⟨_, _, 0, rfl, Or.inl rfl⟩) k32 rfl ?_
    refine go_lcmp (pc' := 117) dL_asks_116 rfl ?_
    refine go_if_ne (t := 188) (pc' := 120) dL_asks_117 rfl rfl (fun c187 => ?_) (fun c187 => ?_)
    · rw [if_pos (show (lcm v13.2.1 v31.2.1) ≠ 0 from c187)] at h
      refine go_iconst (pc' := 189) dL_asks_188 rfl (r32_c rfl) ?_
      obtain ⟨g34, h⟩ := gd h
      cases h
      exact go_zret dL_asks_189 rfl g34 rfl
    · rw [if_neg (show ¬ ((lcm v13.2.1 v31.2.1) ≠ 0) from c187)] at h
      refine go_iload (pc' := 122) dL_asks_120 rfl rfl ?_
      refine go_if_ne (t := 134) (pc' := 125) dL_asks_122 rfl rfl (fun c186 => ?_) (fun c186 => ?_)
      · rw [if_pos (show j19 ≠ 0 from c186)] at h
        exact l_L_asks_c134 d n v31.2.2 e x3 v2 v5 v8 v11 v13.2.1 j19 v29 _ h
      · rw [if_neg (show ¬ (j19 ≠ 0) from c186)] at h
        refine go_lload (pc' := 127) dL_asks_125 rfl rfl ?_
        refine go_ldc2 (pc' := 130) dL_asks_127 rfl (r64_c rfl) rc_12_68 ?_
        refine go_lcmp (pc' := 131) dL_asks_130 rfl ?_
        refine go_if_ne (t := 188) (pc' := 134) dL_asks_131 rfl rfl (fun c185 => ?_) (fun c185 => ?_)
        · rw [if_pos (show (lcm v13.2.1 (-9223372036854775808)) ≠ 0 from c185)] at h
          refine go_iconst (pc' := 189) dL_asks_188 rfl (r32_c rfl) ?_
          obtain ⟨g184, h⟩ := gd h
          cases h
          exact go_zret dL_asks_189 rfl g184 rfl
        · rw [if_neg (show ¬ ((lcm v13.2.1 (-9223372036854775808)) ≠ 0) from c185)] at h
          exact l_L_asks_c134 d n v31.2.2 e x3 v2 v5 v8 v11 v13.2.1 j19 v29 _ h
  clear h
  have h := k20
  refine go_icmp_ne (t := 94) (pc' := 66) dL_asks_63 rfl rfl (fun c188 => ?_) (fun c188 => ?_)
  · rw [if_pos (show v16.2 ≠ 1 from c188)] at h
    refine go_iconst (pc' := 95) dL_asks_94 rfl (r32_c rfl) ?_
    cases h
    exact k20J
  · rw [if_neg (show ¬ (v16.2 ≠ 1) from c188)] at h
    refine go_aload_n (pc' := 67) dL_asks_66 rfl rfl (Nat.le_of_ble_eq_true rfl) ?_
    refine go_iconst (pc' := 68) dL_asks_67 rfl (r32_c rfl) ?_
    refine go_iload (pc' := 70) dL_asks_68 rfl rfl ?_
    refine go_iconst (pc' := 71) dL_asks_70 rfl (r32_c rfl) ?_
    obtain ⟨v21, k22, h⟩ := bd h
    obtain ⟨g23, h⟩ := gd h
    have k22 := l_C_memberAt (d + 240) n e v13.2.2 1 v5 4 _ k22
    rw [g23] at k22
    refine go_call (kc := 115) (Mc := mt115) (v := some (pvI v21.2)) (w' := (true, n, e, v13.2.2)) (pc' := 74) (st' := [pvI v21.2]) [pvR 10 0 0, pvI 1, pvI v5, pvI 4] [] (Or.inl rfl) dL_asks_71 rfl rm_12_56 mtE115 rfl rfl rfl (Nat.le_of_ble_eq_true rfl) (Or.inr ⟨_, _, 0, rfl, Or.inl rfl⟩) k22 rfl ?_
    refine go_iconst (pc' := 75) dL_asks_74 rfl (r32_c rfl) ?_
    refine go_icmp_ne (t := 94) (pc' := 78) dL_asks_75 rfl rfl (fun c28 => ?_) (fun c28 => ?_)
    · rw [if_pos (show v21.2 ≠ 1 from c28)] at h
      refine go_iconst (pc' := 95) dL_asks_94 rfl (r32_c rfl) ?_
      cases h
      exact k20J
    · rw [if_neg (show ¬ (v21.2 ≠ 1) from c28)] at h
      refine go_aload_n (pc' := 79) dL_asks_78 rfl rfl (Nat.le_of_ble_eq_true rfl) ?_
      refine go_iconst (pc' := 80) dL_asks_79 rfl (r32_c rfl) ?_
      refine go_iload (pc' := 82) dL_asks_80 rfl rfl ?_
      refine go_iconst (pc' := 83) dL_asks_82 rfl (r32_c rfl) ?_
      obtain ⟨v24, k25, h⟩ := bd h
      obtain ⟨g26, h⟩ := gd h
      have k25 := l_C_memberAt (d + 240) n e v13.2.2 2 v8 4 _ k25
      rw [g26] at k25
      refine go_call (kc := 115) (Mc := mt115) (v := some (pvI v24.2)) (w' := (true, n, e, v13.2.2)) (pc' := 86) (st' := [pvI v24.2]) [pvR 10 0 0, pvI 2, pvI v8, pvI 4] [] (Or.inl rfl) dL_asks_83 rfl rm_12_56 mtE115 rfl rfl rfl (Nat.le_of_ble_eq_true rfl) (Or.inr ⟨_, _, 0, rfl, Or.inl rfl⟩) k25 rfl ?_
      refine go_iconst (pc' := 87) dL_asks_86 rfl (r32_c rfl) ?_
      refine go_icmp_ne (t := 94) (pc' := 90) dL_asks_87 rfl rfl (fun c27 => ?_) (fun c27 => ?_)
      · rw [if_pos (show v24.2 ≠ 1 from c27)] at h
        refine go_iconst (pc' := 95) dL_asks_94 rfl (r32_c rfl) ?_
        cases h
        exact k20J
      · rw [if_neg (show ¬ (v24.2 ≠ 1) from c27)] at h
        refine go_iconst (pc' := 91) dL_asks_90 rfl (r32_c rfl) ?_
        refine go_goto (t := 95) dL_asks_91 rfl ?_
        cases h
        exact k20J

set_option maxRecDepth 10000 in
theorem l_S_movesTold (d : Nat) (n e : Nat) (σ : Hp) (r : Int) (h : f_S_movesTold σ = some r) : Ev (d + 1) 134 [pvR 7 0 1] (true, n, e, σ) (0, some (pvI r), true, n, e, σ) := by
  unfold f_S_movesTold at h
  refine Ev.of mtE134 rfl rfl rfl rfl ?_
  show Go none (Ev (d + 0)) mt134 0 [some (pvR 7 0 1)] [] (true, n, e, σ) (0, some (pvI r), true, n, e, σ)
  refine go_aload_n (pc' := 1) dX7_movesTold_0 rfl rfl (Nat.le_of_ble_eq_true rfl) ?_
  refine go_getR (k' := 0) (L0 := 0) (P' := 32) (pc' := 4) dX7_movesTold_1 rfl rf_7_18 rfl rfl (by omega) ?_
  refine go_getR (k' := 5) (L0 := 0) (P' := 33) (pc' := 7) dX7_movesTold_4 rfl rf_7_31 rfl rfl (by omega) ?_
  refine go_getI (pc' := 10) dX7_movesTold_7 rfl rf_7_35 rfl ?_
  refine go_aload_n (pc' := 11) dX7_movesTold_10 rfl rfl (Nat.le_of_ble_eq_true rfl) ?_
  refine go_getR (k' := 0) (L0 := 0) (P' := 62) (pc' := 14) dX7_movesTold_11 rfl rf_7_21 rfl rfl (by omega) ?_
  refine go_getR (k' := 5) (L0 := 0) (P' := 63) (pc' := 17) dX7_movesTold_14 rfl rf_7_31 rfl rfl (by omega) ?_
  refine go_getI (pc' := 20) dX7_movesTold_17 rfl rf_7_35 rfl ?_
  obtain ⟨g1, h⟩ := gd h
  refine go_iadd (pc' := 21) dX7_movesTold_20 rfl g1 ?_
  cases h
  exact go_iret dX7_movesTold_21 rfl rfl

set_option maxRecDepth 10000 in
theorem l_MV_tell (d : Nat) (n e : Nat) (σ : Hp) (p : Nat) (x1 : Int) (x2 : Int) (x3 : Int) (r : Hp) (h : f_MV_tell σ p x1 x2 x3 = some r) : Ev (d + 1) 135 [pvR 5 0 p, pvI x1, pvI x2, pvI x3] (true, n, e, σ) (0, none, true, n, e, r) := by
  unfold f_MV_tell at h
  refine Ev.of mtE135 rfl rfl rfl rfl ?_
  show Go none (Ev (d + 0)) mt135 0 [some (pvR 5 0 p), some (pvI x1), some (pvI x2), some (pvI x3)] [] (true, n, e, σ) (0, none, true, n, e, r)
  refine go_aload_n (pc' := 1) dX5_tell_0 rfl rfl (Nat.le_of_ble_eq_true rfl) ?_
  refine go_getI (pc' := 4) dX5_tell_1 rfl rf_5_21 rfl ?_
  refine go_bipush (pc' := 6) dX5_tell_4 rfl (r32_c rfl) (by decide) ?_
  obtain ⟨j1, k2, h⟩ := bd h
  have k2J : Go none (Ev (d + 0)) mt135 49 [some (pvR 5 0 p), some (pvI x1), some (pvI x2), some (pvI x3)] [] (true, n, e, j1) (0, none, true, n, e, r) := by
    cases h
    exact go_vret dX5_tell_49 rfl rfl
  clear h
  have h := k2
  refine go_icmp_ge (t := 49) (pc' := 9) dX5_tell_6 rfl rfl (fun c7 => ?_) (fun c7 => ?_)
  · rw [if_pos (show 10 ≤ (σ p 0) from c7)] at h
    cases h
    exact k2J
  · rw [if_neg (show ¬ (10 ≤ (σ p 0)) from c7)] at h
    refine go_aload_n (pc' := 10) dX5_tell_9 rfl rfl (Nat.le_of_ble_eq_true rfl) ?_
    refine go_getR (k' := 12) (L0 := 10) (P' := (p + 1)) (pc' := 13) dX5_tell_10 rfl rf_5_9 rfl rfl (by omega) ?_
    refine go_aload_n (pc' := 14) dX5_tell_13 rfl rfl (Nat.le_of_ble_eq_true rfl) ?_
    refine go_getI (pc' := 17) dX5_tell_14 rfl rf_5_21 rfl ?_
    refine go_iload_n (pc' := 18) dX5_tell_17 rfl rfl ?_
    obtain ⟨g3, h⟩ := gd h
    refine go_iast (pc' := 19) dX5_tell_18 rfl g3 ?_
    refine go_aload_n (pc' := 20) dX5_tell_19 rfl rfl (Nat.le_of_ble_eq_true rfl) ?_
    refine go_getR (k' := 12) (L0 := 10) (P' := (p + 2)) (pc' := 23) dX5_tell_20 rfl rf_5_15 rfl rfl (by omega) ?_
    refine go_aload_n (pc' := 24) dX5_tell_23 rfl rfl (Nat.le_of_ble_eq_true rfl) ?_
    refine go_getI (pc' := 27) dX5_tell_24 rfl rf_5_21 rfl ?_
    refine go_iload_n (pc' := 28) dX5_tell_27 rfl rfl ?_
    obtain ⟨g4, h⟩ := gd h
    refine go_iast (pc' := 29) dX5_tell_28 rfl g4 ?_
    refine go_aload_n (pc' := 30) dX5_tell_29 rfl rfl (Nat.le_of_ble_eq_true rfl) ?_
    refine go_getR (k' := 12) (L0 := 10) (P' := (p + 3)) (pc' := 33) dX5_tell_30 rfl rf_5_18 rfl rfl (by omega) ?_
    refine go_aload_n (pc' := 34) dX5_tell_33 rfl rfl (Nat.le_of_ble_eq_true rfl) ?_
    refine go_getI (pc' := 37) dX5_tell_34 rfl rf_5_21 rfl ?_
    refine go_iload_n (pc' := 38) dX5_tell_37 rfl rfl ?_
    obtain ⟨g5, h⟩ := gd h
    refine go_iast (pc' := 39) dX5_tell_38 rfl g5 ?_
    refine go_aload_n (pc' := 40) dX5_tell_39 rfl rfl (Nat.le_of_ble_eq_true rfl) ?_
    refine go_dup (pc' := 41) dX5_tell_40 rfl (Nat.ne_of_beq_eq_false rfl) ?_
    refine go_getI (pc' := 44) dX5_tell_41 rfl rf_5_21 rfl ?_
    refine go_iconst (pc' := 45) dX5_tell_44 rfl (r32_c rfl) ?_
    obtain ⟨g6, h⟩ := gd h
    refine go_iadd (pc' := 46) dX5_tell_45 rfl g6 ?_
    refine go_putI (pc' := 49) dX5_tell_46 rfl rf_5_21 rfl ?_
    cases h
    exact k2J

set_option maxRecDepth 10000 in
theorem l_C_move (d : Nat) (n e : Nat) (σ : Hp) (x1 : Int) (x2 : Int) (x3 : Int) (x4 : Int) (r : Nat × Int × Hp) (h : f_C_move σ x1 x2 x3 x4 = some r) : Ev (d + 7) 133 [pvR 10 0 0, pvI x1, pvI x2, pvI x3, pvI x4] (true, n, e, σ) (r.1, if r.1 = 0 then some (pvI r.2.1) else none, true, n, e + if r.1 = 0 then 0 else 1, r.2.2) := by
  unfold f_C_move at h
  refine Ev.of mtE133 rfl rfl rfl rfl ?_
  show Go none (Ev (d + 6)) mt133 0 [some (pvR 10 0 0), some (pvI x1), some (pvI x2), some (pvI x3), some (pvI x4), none, none] [] (true, n, e, σ) (r.1, if r.1 = 0 then some (pvI r.2.1) else none, true, n, e + if r.1 = 0 then 0 else 1, r.2.2)
  refine go_aload_n (pc' := 1) dX10_move_0 rfl rfl (Nat.le_of_ble_eq_true rfl) ?_
  refine go_iload_n (pc' := 2) dX10_move_1 rfl rfl ?_
  obtain ⟨v1, k2, h⟩ := bd h
  by_cases c3 : v1.1 = 0
  · rw [if_pos c3] at h
    have k2 := l_C_existing (d + 4) n e σ x1 _ k2
    rw [c3] at k2
    refine go_call (kc := 13) (Mc := mt13) (v := some (pvR 0 0 v1.2)) (w' := (true, n, e, σ)) (pc' := 5) (st' := [pvR 0 0 v1.2]) [pvR 10 0 0, pvI x1] [] (Or.inl rfl) dX10_move_2 rfl rm_10_62 mtE13 rfl rfl rfl (Nat.le_of_ble_eq_true rfl) (Or.inr ⟨_, _, 0, rfl, Or.inl rfl⟩) k2 rfl ?_
    refine go_astore (L' := [some (pvR 10 0 0), some (pvI x1), some (pvI x2), some (pvI x3), some (pvI x4), some (pvR 0 0 v1.2), none]) (pc' := 7) dX10_move_5 rfl (Nat.le_of_ble_eq_true rfl) (Nat.le_of_ble_eq_true rfl) rfl ?_
    refine go_aload (pc' := 9) dX10_move_7 rfl rfl (Nat.le_of_ble_eq_true rfl) ?_
    refine go_iload_n (pc' := 10) dX10_move_9 rfl rfl ?_
    obtain ⟨v4, k5, h⟩ := bd h
    by_cases c6 : v4 = 0
    · rw [if_pos c6] at h
      have k5 := l_C_needMember (d + 4) n e σ v1.2 x2 _ k5
      rw [c6] at k5
      refine go_call (kc := 15) (Mc := mt15) (v := none) (w' := (true, n, e, σ)) (pc' := 13) (st' := []) [pvR 0 0 v1.2, pvI x2] [] (Or.inr (Or.inl rfl)) dX10_move_10 rfl rm_10_66 mtE15 rfl rfl rfl (Nat.le_of_ble_eq_true rfl) (Or.inl (by decide)) k5 rfl ?_
      refine go_aload (pc' := 15) dX10_move_13 rfl rfl (Nat.le_of_ble_eq_true rfl) ?_
      refine go_iload_n (pc' := 16) dX10_move_15 rfl rfl ?_
      obtain ⟨v7, k8, h⟩ := bd h
      by_cases c9 : v7 = 0
      · rw [if_pos c9] at h
        have k8 := l_C_needMember (d + 4) n e σ v1.2 x3 _ k8
        rw [c9] at k8
        refine go_call (kc := 15) (Mc := mt15) (v := none) (w' := (true, n, e, σ)) (pc' := 19) (st' := []) [pvR 0 0 v1.2, pvI x3] [] (Or.inr (Or.inl rfl)) dX10_move_16 rfl rm_10_66 mtE15 rfl rfl rfl (Nat.le_of_ble_eq_true rfl) (Or.inl (by decide)) k8 rfl ?_
        refine go_aload_n (pc' := 20) dX10_move_19 rfl rfl (Nat.le_of_ble_eq_true rfl) ?_
        refine go_getR (k' := 7) (L0 := 0) (P' := 1) (pc' := 23) dX10_move_20 rfl rf_10_12 rfl rfl (by omega) ?_
        refine go_getR (k' := 0) (L0 := 0) (P' := 2) (pc' := 26) dX10_move_23 rfl rf_10_127 rfl rfl (by omega) ?_
        refine go_iload (pc' := 28) dX10_move_26 rfl rfl ?_
        obtain ⟨v10, k11, h⟩ := bd h
        by_cases c12 : v10 = 0
        · rw [if_pos c12] at h
          have k11 := l_C_needMember (d + 4) n e σ 2 x4 _ k11
          rw [c12] at k11
          refine go_call (kc := 15) (Mc := mt15) (v := none) (w' := (true, n, e, σ)) (pc' := 31) (st' := []) [pvR 0 0 2, pvI x4] [] (Or.inr (Or.inl rfl)) dX10_move_28 rfl rm_10_66 mtE15 rfl rfl rfl (Nat.le_of_ble_eq_true rfl) (Or.inl (by decide)) k11 rfl ?_
          refine go_iload_n (pc' := 32) dX10_move_31 rfl rfl ?_
          refine go_if_eq (t := 39) (pc' := 35) dX10_move_32 rfl rfl (fun c47 => ?_) (fun c47 => ?_)
          · rw [if_pos (show x1 = 0 from c47)] at h
            cases h
            exact go_throw (x := 1) (ic := 112) (ln := 2) (tx := "it cannot be moved") dX10_move_39 rt_10_108 rfl rfl (Nat.le_of_ble_eq_true rfl) dX10_move_42 (Or.inl ⟨dX10_move_43, rfl⟩) dX10_move_45 dX10_move_48 (Or.inl ⟨rfl, rfl⟩) (by decide +kernel) rfl
          · rw [if_neg (show ¬ (x1 = 0) from c47)] at h
            refine go_iload_n (pc' := 36) dX10_move_35 rfl rfl ?_
            refine go_if_ne (t := 49) (pc' := 39) dX10_move_36 rfl rfl (fun c46 => ?_) (fun c46 => ?_)
            · rw [if_pos (show x2 ≠ 0 from c46)] at h
              refine go_aload (pc' := 51) dX10_move_49 rfl rfl (Nat.le_of_ble_eq_true rfl) ?_
              refine go_iload_n (pc' := 52) dX10_move_51 rfl rfl ?_
              obtain ⟨v13, k14, h⟩ := bd h
              have k14 := l_D_isPlain (d + 4) n e σ v1.2 x2 _ k14
              refine go_call (kc := 18) (Mc := mt18) (v := some (pvI v13)) (w' := (true, n, e, σ)) (pc' := 55) (st' := [pvI v13]) [pvR 0 0 v1.2, pvI x2] [] (Or.inl rfl) dX10_move_52 rfl rm_10_74 mtE18 rfl rfl rfl (Nat.le_of_ble_eq_true rfl) (Or.inr ⟨_, _, v1.2, rfl, Or.inl rfl⟩) k14 rfl ?_
              obtain ⟨j15, k16, h⟩ := bd h
              have k16J : Go none (Ev (d + 6)) mt133 87 [some (pvR 10 0 0), some (pvI x1), some (pvI x2), some (pvI x3), some (pvI x4), some (pvR 0 0 v1.2), none] [pvI j15] (true, n, e, σ) (r.1, if r.1 = 0 then some (pvI r.2.1) else none, true, n, e + if r.1 = 0 then 0 else 1, r.2.2) := by
                obtain ⟨v23, k24, h⟩ := bd h
                by_cases c25 : v23 = 0
                · rw [if_pos c25] at h
                  have k24 := l_C_need (d + 5) n e σ j15 _ k24
                  rw [c25] at k24
                  refine go_call (kc := 19) (Mc := mt19) (v := none) (w' := (true, n, e, σ)) (pc' := 90) (st' := []) [pvI j15] [] (Or.inr (Or.inl rfl)) dX10_move_87 rfl rm_10_84 mtE19 rfl rfl rfl (Nat.le_of_ble_eq_true rfl) (Or.inl (by decide)) k24 rfl ?_
                  refine go_iload_n (pc' := 91) dX10_move_90 rfl rfl ?_
                  refine go_iload_n (pc' := 92) dX10_move_91 rfl rfl ?_
                  obtain ⟨j26, k27, h⟩ := bd h
                  have k27J : Go none (Ev (d + 6)) mt133 112 [some (pvR 10 0 0), some (pvI x1), some (pvI x2), some (pvI x3), some (pvI x4), some (pvR 0 0 v1.2), none] [pvI j26] (true, n, e, σ) (r.1, if r.1 = 0 then some (pvI r.2.1) else none, true, n, e + if r.1 = 0 then 0 else 1, r.2.2) := by
                    obtain ⟨v31, k32, h⟩ := bd h
                    by_cases c33 : v31 = 0
                    · rw [if_pos c33] at h
                      have k32 := l_C_need (d + 5) n e σ j26 _ k32
                      rw [c33] at k32
                      refine go_call (kc := 19) (Mc := mt19) (v := none) (w' := (true, n, e, σ)) (pc' := 115) (st' := []) [pvI j26] [] (Or.inr (Or.inl rfl)) dX10_move_112 rfl rm_10_84 mtE19 rfl rfl rfl (Nat.le_of_ble_eq_true rfl) (Or.inl (by decide)) k32 rfl ?_
                      refine go_aload (pc' := 117) dX10_move_115 rfl rfl (Nat.le_of_ble_eq_true rfl) ?_
                      refine go_iload_n (pc' := 118) dX10_move_117 rfl rfl ?_
                      obtain ⟨v34, k35, h⟩ := bd h
                      have k35 := l_D_parentOf (d + 4) n e σ v1.2 x2 _ k35
                      refine go_call (kc := 88) (Mc := mt88) (v := some (pvI v34)) (w' := (true, n, e, σ)) (pc' := 121) (st' := [pvI v34]) [pvR 0 0 v1.2, pvI x2] [] (Or.inl rfl) dX10_move_118 rfl rm_10_137 mtE88 rfl rfl rfl (Nat.le_of_ble_eq_true rfl) (Or.inr ⟨_, _, v1.2, rfl, Or.inl rfl⟩) k35 rfl ?_
                      refine go_istore (L' := [some (pvR 10 0 0), some (pvI x1), some (pvI x2), some (pvI x3), some (pvI x4), some (pvR 0 0 v1.2), some (pvI v34)]) (pc' := 123) dX10_move_121 rfl (Nat.le_of_ble_eq_true rfl) rfl ?_
                      refine go_aload (pc' := 125) dX10_move_123 rfl rfl (Nat.le_of_ble_eq_true rfl) ?_
                      refine go_getR (k' := 5) (L0 := 0) (P' := (v1.2 + 1)) (pc' := 128) dX10_move_125 rfl rf_10_140 rfl rfl (by omega) ?_
                      refine go_iload_n (pc' := 129) dX10_move_128 rfl rfl ?_
                      refine go_iload_n (pc' := 130) dX10_move_129 rfl rfl ?_
                      refine go_iload (pc' := 132) dX10_move_130 rfl rfl ?_
                      obtain ⟨v36, k37, h⟩ := bd h
                      have k37 := l_MV_tell (d + 5) n e σ (v1.2 + 1) x2 x3 x4 _ k37
                      refine go_call (kc := 135) (Mc := mt135) (v := none) (w' := (true, n, e, v36)) (pc' := 135) (st' := []) [pvR 5 0 (v1.2 + 1), pvI x2, pvI x3, pvI x4] [] (Or.inl rfl) dX10_move_132 rfl rm_10_144 mtE135 rfl rfl rfl (Nat.le_of_ble_eq_true rfl) (Or.inr ⟨_, _, (v1.2 + 1), rfl, Or.inl rfl⟩) k37 rfl ?_
                      refine go_aload_n (pc' := 136) dX10_move_135 rfl rfl (Nat.le_of_ble_eq_true rfl) ?_
                      refine go_getR (k' := 7) (L0 := 0) (P' := 1) (pc' := 139) dX10_move_136 rfl rf_10_12 rfl rfl (by omega) ?_
                      obtain ⟨v38, k39, h⟩ := bd h
                      have k39 := l_S_weigh (d + 0) n e v36 _ k39
                      refine go_call (kc := 25) (Mc := mt25) (v := none) (w' := (true, n, e, v38)) (pc' := 142) (st' := []) [pvR 7 0 1] [] (Or.inl rfl) dX10_move_139 rfl rm_10_102 mtE25 rfl rfl rfl (Nat.le_of_ble_eq_true rfl) (Or.inr ⟨_, _, 1, rfl, Or.inl rfl⟩) k39 rfl ?_
                      refine go_aload_n (pc' := 143) dX10_move_142 rfl rfl (Nat.le_of_ble_eq_true rfl) ?_
                      refine go_getR (k' := 3) (L0 := 0) (P' := 108) (pc' := 146) dX10_move_143 rfl rf_10_35 rfl rfl (by omega) ?_
                      obtain ⟨v40, k41, h⟩ := bd h
                      have k41 := l_K_dropAll (d + 5) n e v38 _ k41
                      refine go_call (kc := 35) (Mc := mt35) (v := none) (w' := (true, n, e, v40)) (pc' := 149) (st' := []) [pvR 3 0 108] [] (Or.inl rfl) dX10_move_146 rfl rm_10_105 mtE35 rfl rfl rfl (Nat.le_of_ble_eq_true rfl) (Or.inr ⟨_, _, 108, rfl, Or.inl rfl⟩) k41 rfl ?_
                      refine go_iload (pc' := 151) dX10_move_149 rfl rfl ?_
                      cases h
                      exact go_iret dX10_move_151 rfl rfl
                    · rw [if_neg c33] at h
                      obtain ⟨g42, h⟩ := gd h
                      cases h
                      have k32 := l_C_need (d + 5) n e σ j26 _ k32
                      simp only [if_neg c33] at k32 ⊢
                      exact go_callX (kc := 19) (Mc := mt19) [pvI j26] [] (Or.inr rfl) dX10_move_112 rm_10_84 mtE19 rfl rfl rfl (Nat.le_of_ble_eq_true rfl) (Or.inl (by decide)) rfl c33 g42 k32 rfl
                  clear h
                  have h := k27
                  refine go_icmp_ge (t := 111) (pc' := 95) dX10_move_92 rfl rfl (fun c43 => ?_) (fun c43 => ?_)
                  · rw [if_pos (show x2 ≤ x3 from c43)] at h
                    refine go_iconst (pc' := 112) dX10_move_111 rfl (r32_c rfl) ?_
                    cases h
                    exact k27J
                  · rw [if_neg (show ¬ (x2 ≤ x3) from c43)] at h
                    refine go_aload_n (pc' := 96) dX10_move_95 rfl rfl (Nat.le_of_ble_eq_true rfl) ?_
                    refine go_getR (k' := 7) (L0 := 0) (P' := 1) (pc' := 99) dX10_move_96 rfl rf_10_12 rfl rfl (by omega) ?_
                    obtain ⟨v28, k29, h⟩ := bd h
                    have k29 := l_S_movesTold (d + 5) n e σ _ k29
                    refine go_call (kc := 134) (Mc := mt134) (v := some (pvI v28)) (w' := (true, n, e, σ)) (pc' := 102) (st' := [pvI v28]) [pvR 7 0 1] [] (Or.inl rfl) dX10_move_99 rfl rm_10_133 mtE134 rfl rfl rfl (Nat.le_of_ble_eq_true rfl) (Or.inr ⟨_, _, 1, rfl, Or.inl rfl⟩) k29 rfl ?_
                    refine go_bipush (pc' := 104) dX10_move_102 rfl (r32_c rfl) (by decide) ?_
                    refine go_icmp_ge (t := 111) (pc' := 107) dX10_move_104 rfl rfl (fun c30 => ?_) (fun c30 => ?_)
                    · rw [if_pos (show 10 ≤ v28 from c30)] at h
                      refine go_iconst (pc' := 112) dX10_move_111 rfl (r32_c rfl) ?_
                      cases h
                      exact k27J
                    · rw [if_neg (show ¬ (10 ≤ v28) from c30)] at h
                      refine go_iconst (pc' := 108) dX10_move_107 rfl (r32_c rfl) ?_
                      refine go_goto (t := 112) dX10_move_108 rfl ?_
                      cases h
                      exact k27J
                · rw [if_neg c25] at h
                  obtain ⟨g44, h⟩ := gd h
                  cases h
                  have k24 := l_C_need (d + 5) n e σ j15 _ k24
                  simp only [if_neg c25] at k24 ⊢
                  exact go_callX (kc := 19) (Mc := mt19) [pvI j15] [] (Or.inr rfl) dX10_move_87 rm_10_84 mtE19 rfl rfl rfl (Nat.le_of_ble_eq_true rfl) (Or.inl (by decide)) rfl c25 g44 k24 rfl
              clear h
              have h := k16
              refine go_if_eq (t := 86) (pc' := 58) dX10_move_55 rfl rfl (fun c45 => ?_) (fun c45 => ?_)
              · rw [if_pos (show v13 = 0 from c45)] at h
                refine go_iconst (pc' := 87) dX10_move_86 rfl (r32_c rfl) ?_
                cases h
                exact k16J
              · rw [if_neg (show ¬ (v13 = 0) from c45)] at h
                refine go_aload (pc' := 60) dX10_move_58 rfl rfl (Nat.le_of_ble_eq_true rfl) ?_
                refine go_iload_n (pc' := 61) dX10_move_60 rfl rfl ?_
                obtain ⟨v17, k18, h⟩ := bd h
                have k18 := l_D_isPlain (d + 4) n e σ v1.2 x3 _ k18
                refine go_call (kc := 18) (Mc := mt18) (v := some (pvI v17)) (w' := (true, n, e, σ)) (pc' := 64) (st' := [pvI v17]) [pvR 0 0 v1.2, pvI x3] [] (Or.inl rfl) dX10_move_61 rfl rm_10_74 mtE18 rfl rfl rfl (Nat.le_of_ble_eq_true rfl) (Or.inr ⟨_, _, v1.2, rfl, Or.inl rfl⟩) k18 rfl ?_
                refine go_if_eq (t := 86) (pc' := 67) dX10_move_64 rfl rfl (fun c22 => ?_) (fun c22 => ?_)
                · rw [if_pos (show v17 = 0 from c22)] at h
                  refine go_iconst (pc' := 87) dX10_move_86 rfl (r32_c rfl) ?_
                  cases h
                  exact k16J
                · rw [if_neg (show ¬ (v17 = 0) from c22)] at h
                  refine go_aload_n (pc' := 68) dX10_move_67 rfl rfl (Nat.le_of_ble_eq_true rfl) ?_
                  refine go_getR (k' := 7) (L0 := 0) (P' := 1) (pc' := 71) dX10_move_68 rfl rf_10_12 rfl rfl (by omega) ?_
                  refine go_getR (k' := 0) (L0 := 0) (P' := 2) (pc' := 74) dX10_move_71 rfl rf_10_127 rfl rfl (by omega) ?_
                  refine go_iload (pc' := 76) dX10_move_74 rfl rfl ?_
                  obtain ⟨v19, k20, h⟩ := bd h
                  have k20 := l_D_isPlain (d + 4) n e σ 2 x4 _ k20
                  refine go_call (kc := 18) (Mc := mt18) (v := some (pvI v19)) (w' := (true, n, e, σ)) (pc' := 79) (st' := [pvI v19]) [pvR 0 0 2, pvI x4] [] (Or.inl rfl) dX10_move_76 rfl rm_10_74 mtE18 rfl rfl rfl (Nat.le_of_ble_eq_true rfl) (Or.inr ⟨_, _, 2, rfl, Or.inl rfl⟩) k20 rfl ?_
                  refine go_if_eq (t := 86) (pc' := 82) dX10_move_79 rfl rfl (fun c21 => ?_) (fun c21 => ?_)
                  · rw [if_pos (show v19 = 0 from c21)] at h
                    refine go_iconst (pc' := 87) dX10_move_86 rfl (r32_c rfl) ?_
                    cases h
                    exact k16J
                  · rw [if_neg (show ¬ (v19 = 0) from c21)] at h
                    refine go_iconst (pc' := 83) dX10_move_82 rfl (r32_c rfl) ?_
                    refine go_goto (t := 87) dX10_move_83 rfl ?_
                    cases h
                    exact k16J
            · rw [if_neg (show ¬ (x2 ≠ 0) from c46)] at h
              cases h
              exact go_throw (x := 1) (ic := 112) (ln := 2) (tx := "it cannot be moved") dX10_move_39 rt_10_108 rfl rfl (Nat.le_of_ble_eq_true rfl) dX10_move_42 (Or.inl ⟨dX10_move_43, rfl⟩) dX10_move_45 dX10_move_48 (Or.inl ⟨rfl, rfl⟩) (by decide +kernel) rfl
        · rw [if_neg c12] at h
          obtain ⟨g48, h⟩ := gd h
          cases h
          have k11 := l_C_needMember (d + 4) n e σ 2 x4 _ k11
          simp only [if_neg c12] at k11 ⊢
          exact go_callX (kc := 15) (Mc := mt15) [pvR 0 0 2, pvI x4] [] (Or.inr rfl) dX10_move_28 rm_10_66 mtE15 rfl rfl rfl (Nat.le_of_ble_eq_true rfl) (Or.inl (by decide)) rfl c12 g48 k11 rfl
      · rw [if_neg c9] at h
        obtain ⟨g49, h⟩ := gd h
        cases h
        have k8 := l_C_needMember (d + 4) n e σ v1.2 x3 _ k8
        simp only [if_neg c9] at k8 ⊢
        exact go_callX (kc := 15) (Mc := mt15) [pvR 0 0 v1.2, pvI x3] [] (Or.inr rfl) dX10_move_16 rm_10_66 mtE15 rfl rfl rfl (Nat.le_of_ble_eq_true rfl) (Or.inl (by decide)) rfl c9 g49 k8 rfl
    · rw [if_neg c6] at h
      obtain ⟨g50, h⟩ := gd h
      cases h
      have k5 := l_C_needMember (d + 4) n e σ v1.2 x2 _ k5
      simp only [if_neg c6] at k5 ⊢
      exact go_callX (kc := 15) (Mc := mt15) [pvR 0 0 v1.2, pvI x2] [] (Or.inr rfl) dX10_move_10 rm_10_66 mtE15 rfl rfl rfl (Nat.le_of_ble_eq_true rfl) (Or.inl (by decide)) rfl c6 g50 k5 rfl
  · rw [if_neg c3] at h
    obtain ⟨g51, h⟩ := gd h
    cases h
    have k2 := l_C_existing (d + 4) n e σ x1 _ k2
    simp only [if_neg c3] at k2 ⊢
    exact go_callX (kc := 13) (Mc := mt13) [pvR 10 0 0, pvI x1] [] (Or.inl rfl) dX10_move_2 rm_10_62 mtE13 rfl rfl rfl (Nat.le_of_ble_eq_true rfl) (Or.inr ⟨_, _, 0, rfl, Or.inl rfl⟩) rfl c3 g51 k2 rfl

