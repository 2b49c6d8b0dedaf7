/-! ===== links: each function is what its bytecode does ===== -/
set_option maxRecDepth 10000 in
theorem l_JI_bitCount (d : Nat) (n e : Nat) (σ : Hp) (x1 : Int) (r : Int) (h : f_JI_bitCount σ x1 = some r) : Ev (d + 1) 44 [pvI x1] (true, n, e, σ) (0, some (pvI r), true, n, e, σ) := by
  unfold f_JI_bitCount at h
  refine Ev.of mtE44 rfl rfl rfl rfl ?_
  show Go none (Ev (d + 0)) mt44 0 [some (pvI x1)] [] (true, n, e, σ) (0, some (pvI r), true, n, e, σ)
  refine go_iload_n (pc' := 1) dJ6_bitCount_0f7a4_0 rfl rfl ?_
  refine go_iload_n (pc' := 2) dJ6_bitCount_0f7a4_1 rfl rfl ?_
  refine go_iconst (pc' := 3) dJ6_bitCount_0f7a4_2 rfl (r32_c rfl) ?_
  refine go_iushr (pc' := 4) dJ6_bitCount_0f7a4_3 rfl ?_
  refine go_ldcw (pc' := 7) dJ6_bitCount_0f7a4_4 rfl (r32_c rfl) rc_13_265 ?_
  refine go_iand (pc' := 8) dJ6_bitCount_0f7a4_7 rfl ?_
  obtain ⟨g1, h⟩ := gd h
  refine go_isub (pc' := 9) dJ6_bitCount_0f7a4_8 rfl g1 ?_
  refine go_istore_n (L' := [some (pvI (x1 - (iand (iushr x1 1) 1431655765)))]) (pc' := 10) dJ6_bitCount_0f7a4_9 rfl (Nat.le_of_ble_eq_true rfl) rfl ?_
  refine go_iload_n (pc' := 11) dJ6_bitCount_0f7a4_10 rfl rfl ?_
  refine go_ldcw (pc' := 14) dJ6_bitCount_0f7a4_11 rfl (r32_c rfl) rc_13_266 ?_
  refine go_iand (pc' := 15) dJ6_bitCount_0f7a4_14 rfl ?_
  refine go_iload_n (pc' := 16) dJ6_bitCount_0f7a4_15 rfl rfl ?_
  refine go_iconst (pc' := 17) dJ6_bitCount_0f7a4_16 rfl (r32_c rfl) ?_
  refine go_iushr (pc' := 18) dJ6_bitCount_0f7a4_17 rfl ?_
  refine go_ldcw (pc' := 21) dJ6_bitCount_0f7a4_18 rfl (r32_c rfl) rc_13_266 ?_
  refine go_iand (pc' := 22) dJ6_bitCount_0f7a4_21 rfl ?_
  obtain ⟨g2, h⟩ := gd h
  refine go_iadd (pc' := 23) dJ6_bitCount_0f7a4_22 rfl g2 ?_
  refine go_istore_n (L' := [some (pvI ((iand (x1 - (iand (iushr x1 1) 1431655765)) 858993459) + (iand (iushr (x1 - (iand (iushr x1 1) 1431655765)) 2) 858993459)))]) (pc' := 24) dJ6_bitCount_0f7a4_23 rfl (Nat.le_of_ble_eq_true rfl) rfl ?_
  refine go_iload_n (pc' := 25) dJ6_bitCount_0f7a4_24 rfl rfl ?_
  refine go_iload_n (pc' := 26) dJ6_bitCount_0f7a4_25 rfl rfl ?_
  refine go_iconst (pc' := 27) dJ6_bitCount_0f7a4_26 rfl (r32_c rfl) ?_
  refine go_iushr (pc' := 28) dJ6_bitCount_0f7a4_27 rfl ?_
  obtain ⟨g3, h⟩ := gd h
  refine go_iadd (pc' := 29) dJ6_bitCount_0f7a4_28 rfl g3 ?_
  refine go_ldcw (pc' := 32) dJ6_bitCount_0f7a4_29 rfl (r32_c rfl) rc_13_267 ?_
  refine go_iand (pc' := 33) dJ6_bitCount_0f7a4_32 rfl ?_
  refine go_istore_n (L' := [some (pvI (iand (((iand (x1 - (iand (iushr x1 1) 1431655765)) 858993459) + (iand (iushr (x1 - (iand (iushr x1 1) 1431655765)) 2) 858993459)) + (iushr ((iand (x1 - (iand (iushr x1 1) 1431655765)) 858993459) + (iand (iushr (x1 - (iand (iushr x1 1) 1431655765)) 2) 858993459)) 4)) 252645135))]) (pc' := 34) dJ6_bitCount_0f7a4_33 rfl (Nat.le_of_ble_eq_true rfl) rfl ?_
  refine go_iload_n (pc' := 35) dJ6_bitCount_0f7a4_34 rfl rfl ?_
  refine go_iload_n (pc' := 36) dJ6_bitCount_0f7a4_35 rfl rfl ?_
  refine go_bipush (pc' := 38) dJ6_bitCount_0f7a4_36 rfl (r32_c rfl) (by decide) ?_
  refine go_iushr (pc' := 39) dJ6_bitCount_0f7a4_38 rfl ?_
  obtain ⟨g4, h⟩ := gd h
  refine go_iadd (pc' := 40) dJ6_bitCount_0f7a4_39 rfl g4 ?_
  refine go_istore_n (L' := [some (pvI ((iand (((iand (x1 - (iand (iushr x1 1) 1431655765)) 858993459) + (iand (iushr (x1 - (iand (iushr x1 1) 1431655765)) 2) 858993459)) + (iushr ((iand (x1 - (iand (iushr x1 1) 1431655765)) 858993459) + (iand (iushr (x1 - (iand (iushr x1 1) 1431655765)) 2) 858993459)) 4)) 252645135) + (iushr (iand (((iand (x1 - (iand (iushr x1 1) 1431655765)) 858993459) + (iand (iushr (x1 - (iand (iushr x1 1) 1431655765)) 2) 858993459)) + (iushr ((iand (x1 - (iand (iushr x1 1) 1431655765)) 858993459) + (iand (iushr (x1 - (iand (iushr x1 1) 1431655765)) 2) 858993459)) 4)) 252645135) 8)))]) (pc' := 41) dJ6_bitCount_0f7a4_40 rfl (Nat.le_of_ble_eq_true rfl) rfl ?_
  refine go_iload_n (pc' := 42) dJ6_bitCount_0f7a4_41 rfl rfl ?_
  refine go_iload_n (pc' := 43) dJ6_bitCount_0f7a4_42 rfl rfl ?_
  refine go_bipush (pc' := 45) dJ6_bitCount_0f7a4_43 rfl (r32_c rfl) (by decide) ?_
  refine go_iushr (pc' := 46) dJ6_bitCount_0f7a4_45 rfl ?_
  obtain ⟨g5, h⟩ := gd h
  refine go_iadd (pc' := 47) dJ6_bitCount_0f7a4_46 rfl g5 ?_
  refine go_istore_n (L' := [some (pvI (((iand (((iand (x1 - (iand (iushr x1 1) 1431655765)) 858993459) + (iand (iushr (x1 - (iand (iushr x1 1) 1431655765)) 2) 858993459)) + (iushr ((iand (x1 - (iand (iushr x1 1) 1431655765)) 858993459) + (iand (iushr (x1 - (iand (iushr x1 1) 1431655765)) 2) 858993459)) 4)) 252645135) + (iushr (iand (((iand (x1 - (iand (iushr x1 1) 1431655765)) 858993459) + (iand (iushr (x1 - (iand (iushr x1 1) 1431655765)) 2) 858993459)) + (iushr ((iand (x1 - (iand (iushr x1 1) 1431655765)) 858993459) + (iand (iushr (x1 - (iand (iushr x1 1) 1431655765)) 2) 858993459)) 4)) 252645135) 8)) + (iushr ((iand (((iand (x1 - (iand (iushr x1 1) 1431655765)) 858993459) + (iand (iushr (x1 - (iand (iushr x1 1) 1431655765)) 2) 858993459)) + (iushr ((iand (x1 - (iand (iushr x1 1) 1431655765)) 858993459) + (iand (iushr (x1 - (iand (iushr x1 1) 1431655765)) 2) 858993459)) 4)) 252645135) + (iushr (iand (((iand (x1 - (iand (iushr x1 1) 1431655765)) 858993459) + (iand (iushr (x1 - (iand (iushr x1 1) 1431655765)) 2) 858993459)) + (iushr ((iand (x1 - (iand (iushr x1 1) 1431655765)) 858993459) + (iand (iushr (x1 - (iand (iushr x1 1) 1431655765)) 2) 858993459)) 4)) 252645135) 8)) 16)))]) (pc' := 48) dJ6_bitCount_0f7a4_47 rfl (Nat.le_of_ble_eq_true rfl) rfl ?_
  refine go_iload_n (pc' := 49) dJ6_bitCount_0f7a4_48 rfl rfl ?_
  refine go_bipush (pc' := 51) dJ6_bitCount_0f7a4_49 rfl (r32_c rfl) (by decide) ?_
  refine go_iand (pc' := 52) dJ6_bitCount_0f7a4_51 rfl ?_
  cases h
  exact go_iret dJ6_bitCount_0f7a4_52 rfl rfl

set_option maxRecDepth 10000 in
theorem l_D_areAllPlain_2 (d : Nat) (n : Nat) (e : Nat) (σ : Hp) (p : Nat) (x1 : Int) : ∀ (F : Nat) (y1 : Int) (r : Int), f_D_areAllPlain_2 σ p x1 F y1 = some r → Go none (Ev (d + 2)) mt45 2 [some (pvR 0 0 p), some (pvI x1), some (pvI y1)] [] (true, n, e, σ) (0, some (pvI r), true, n, e, σ) := by
  intro F
  induction F with
  | zero =>
    intro _ _ h
    rw [f_D_areAllPlain_2] at h
    cases h
  | succ F ih =>
    intro y1 r h
    rw [f_D_areAllPlain_2] at h
    refine go_iload_n (pc' := 3) dX0_areAllPlain_2 rfl rfl ?_
    refine go_bipush (pc' := 5) dX0_areAllPlain_3 rfl (r32_c rfl) (by decide) ?_
    refine go_icmp_ge (t := 33) (pc' := 8) dX0_areAllPlain_5 rfl rfl (fun c10 => ?_) (fun c10 => ?_)
    · rw [if_pos (show 12 ≤ y1 from c10)] at h
      refine go_iconst (pc' := 34) dX0_areAllPlain_33 rfl (r32_c rfl) ?_
      obtain ⟨g2, h⟩ := gd h
      cases h
      exact go_zret dX0_areAllPlain_34 rfl g2 rfl
    · rw [if_neg (show ¬ (12 ≤ y1) from c10)] at h
      refine go_iload_n (pc' := 9) dX0_areAllPlain_8 rfl rfl ?_
      refine go_iload_n (pc' := 10) dX0_areAllPlain_9 rfl rfl ?_
      refine go_ishr (pc' := 11) dX0_areAllPlain_10 rfl ?_
      refine go_iconst (pc' := 12) dX0_areAllPlain_11 rfl (r32_c rfl) ?_
      refine go_iand (pc' := 13) dX0_areAllPlain_12 rfl ?_
      refine go_iconst (pc' := 14) dX0_areAllPlain_13 rfl (r32_c rfl) ?_
      refine go_icmp_ne (t := 27) (pc' := 17) dX0_areAllPlain_14 rfl rfl (fun c9 => ?_) (fun c9 => ?_)
      · rw [if_pos (show (iand (ishr x1 y1) 1) ≠ 1 from c9)] at h
        obtain ⟨g3, h⟩ := gd h
        refine go_iinc (L' := [some (pvR 0 0 p), some (pvI x1), some (pvI (y1 + 1))]) (pc' := 30) dX0_areAllPlain_27 rfl rfl g3 rfl ?_
        refine go_goto (t := 2) dX0_areAllPlain_30 rfl ?_
        exact ih (y1 + 1) _ h
      · rw [if_neg (show ¬ ((iand (ishr x1 y1) 1) ≠ 1) from c9)] at h
        refine go_aload_n (pc' := 18) dX0_areAllPlain_17 rfl rfl (Nat.le_of_ble_eq_true rfl) ?_
        refine go_iload_n (pc' := 19) dX0_areAllPlain_18 rfl rfl ?_
        obtain ⟨v4, k5, h⟩ := bd h
        have k5 := l_D_isPlain (d + 0) n e σ p y1 _ k5
        refine go_call (kc := 25) (Mc := mt25) (v := some (pvI v4)) (w' := (true, n, e, σ)) (pc' := 22) (st' := [pvI v4]) [pvR 0 0 p, pvI y1] [] (Or.inl rfl) dX0_areAllPlain_19 rfl rm_0_69 mtE25 rfl rfl rfl (Nat.le_of_ble_eq_true rfl) (Or.inr ⟨_, _, p, rfl, Or.inl rfl⟩) k5 rfl ?_
        refine go_if_ne (t := 27) (pc' := 25) dX0_areAllPlain_22 rfl rfl (fun c8 => ?_) (fun c8 => ?_)
        · rw [if_pos (show v4 ≠ 0 from c8)] at h
          obtain ⟨g6, h⟩ := gd h
          refine go_iinc (L' := [some (pvR 0 0 p), some (pvI x1), some (pvI (y1 + 1))]) (pc' := 30) dX0_areAllPlain_27 rfl rfl g6 rfl ?_
          refine go_goto (t := 2) dX0_areAllPlain_30 rfl ?_
          exact ih (y1 + 1) _ h
        · rw [if_neg (show ¬ (v4 ≠ 0) from c8)] at h
          refine go_iconst (pc' := 26) dX0_areAllPlain_25 rfl (r32_c rfl) ?_
          obtain ⟨g7, h⟩ := gd h
          cases h
          exact go_zret dX0_areAllPlain_26 rfl g7 rfl

set_option maxRecDepth 10000 in
theorem l_D_areAllPlain (d : Nat) (n e : Nat) (σ : Hp) (p : Nat) (x1 : Int) (r : Int) (h : f_D_areAllPlain σ p x1 = some r) : Ev (d + 3) 45 [pvR 0 0 p, pvI x1] (true, n, e, σ) (0, some (pvI r), true, n, e, σ) := by
  unfold f_D_areAllPlain at h
  refine Ev.of mtE45 rfl rfl rfl rfl ?_
  show Go none (Ev (d + 2)) mt45 0 [some (pvR 0 0 p), some (pvI x1), none] [] (true, n, e, σ) (0, some (pvI r), true, n, e, σ)
  refine go_iconst (pc' := 1) dX0_areAllPlain_0 rfl (r32_c rfl) ?_
  refine go_istore_n (L' := [some (pvR 0 0 p), some (pvI x1), some (pvI 0)]) (pc' := 2) dX0_areAllPlain_1 rfl (Nat.le_of_ble_eq_true rfl) rfl ?_
  exact l_D_areAllPlain_2 d n e σ p x1 zFuel 0 _ h

set_option maxRecDepth 10000 in
theorem l_D_addBridge (d : Nat) (n e : Nat) (σ : Hp) (p : Nat) (x1 : Int) (r : Int × Hp) (h : f_D_addBridge σ p x1 = some r) : Ev (d + 2) 46 [pvR 0 0 p, pvI x1] (true, n, e, σ) (0, some (pvI r.1), true, n, e, r.2) := by
  unfold f_D_addBridge at h
  refine Ev.of mtE46 rfl rfl rfl rfl ?_
  show Go none (Ev (d + 1)) mt46 0 [some (pvR 0 0 p), some (pvI x1), none] [] (true, n, e, σ) (0, some (pvI r.1), true, n, e, r.2)
  refine go_aload_n (pc' := 1) dX0_addBridge_0 rfl rfl (Nat.le_of_ble_eq_true rfl) ?_
  refine go_iconst (pc' := 2) dX0_addBridge_1 rfl (r32_c rfl) ?_
  obtain ⟨v1, k2, h⟩ := bd h
  have k2 := l_D_addKind (d + 0) n e σ p 1 _ k2
  refine go_call (kc := 28) (Mc := mt28) (v := some (pvI v1.1)) (w' := (true, n, e, v1.2)) (pc' := 5) (st' := [pvI v1.1]) [pvR 0 0 p, pvI 1] [] (Or.inl rfl) dX0_addBridge_2 rfl rm_0_72 mtE28 rfl rfl rfl (Nat.le_of_ble_eq_true rfl) (Or.inr ⟨_, _, p, rfl, Or.inl rfl⟩) k2 rfl ?_
  refine go_istore_n (L' := [some (pvR 0 0 p), some (pvI x1), some (pvI v1.1)]) (pc' := 6) dX0_addBridge_5 rfl (Nat.le_of_ble_eq_true rfl) rfl ?_
  refine go_aload_n (pc' := 7) dX0_addBridge_6 rfl rfl (Nat.le_of_ble_eq_true rfl) ?_
  refine go_iload_n (pc' := 8) dX0_addBridge_7 rfl rfl ?_
  obtain ⟨v3, k4, h⟩ := bd h
  have k4 := l_D_has (d + 0) n e v1.2 p v1.1 _ k4
  refine go_call (kc := 23) (Mc := mt23) (v := some (pvI v3)) (w' := (true, n, e, v1.2)) (pc' := 11) (st' := [pvI v3]) [pvR 0 0 p, pvI v1.1] [] (Or.inl rfl) dX0_addBridge_8 rfl rm_0_65 mtE23 rfl rfl rfl (Nat.le_of_ble_eq_true rfl) (Or.inr ⟨_, _, p, rfl, Or.inl rfl⟩) k4 rfl ?_
  obtain ⟨j5, k6, h⟩ := bd h
  have k6J : Go none (Ev (d + 1)) mt46 21 [some (pvR 0 0 p), some (pvI x1), some (pvI v1.1)] [] (true, n, e, j5) (0, some (pvI r.1), true, n, e, r.2) := by
    refine go_iload_n (pc' := 22) dX0_addBridge_21 rfl rfl ?_
    cases h
    exact go_iret dX0_addBridge_22 rfl rfl
  clear h
  have h := k6
  refine go_if_eq (t := 21) (pc' := 14) dX0_addBridge_11 rfl rfl (fun c8 => ?_) (fun c8 => ?_)
  · rw [if_pos (show v3 = 0 from c8)] at h
    cases h
    exact k6J
  · rw [if_neg (show ¬ (v3 = 0) from c8)] at h
    refine go_aload_n (pc' := 15) dX0_addBridge_14 rfl rfl (Nat.le_of_ble_eq_true rfl) ?_
    refine go_getR (k' := 12) (L0 := 12) (P' := (p + 8)) (pc' := 18) dX0_addBridge_15 rfl rf_0_32 rfl rfl (by omega) ?_
    refine go_iload_n (pc' := 19) dX0_addBridge_18 rfl rfl ?_
    refine go_iload_n (pc' := 20) dX0_addBridge_19 rfl rfl ?_
    obtain ⟨g7, h⟩ := gd h
    refine go_iast (pc' := 21) dX0_addBridge_20 rfl g7 ?_
    cases h
    exact k6J

set_option maxRecDepth 10000 in
theorem l_C_bridge (d : Nat) (n e : Nat) (σ : Hp) (x1 : Int) (x2 : Int) (r : Nat × Int × Hp) (h : f_C_bridge σ x1 x2 = some r) : Ev (d + 7) 43 [pvR 10 0 0, pvI x1, pvI x2] (true, n, e, σ) (r.1, if r.1 = 0 then some (pvI r.2.1) else none, true, n, e + if r.1 = 0 then 0 else 1, r.2.2) := by
  unfold f_C_bridge at h
  refine Ev.of mtE43 rfl rfl rfl rfl ?_
  show Go none (Ev (d + 6)) mt43 0 [some (pvR 10 0 0), some (pvI x1), some (pvI x2), none, none, none] [] (true, n, e, σ) (r.1, if r.1 = 0 then some (pvI r.2.1) else none, true, n, e + if r.1 = 0 then 0 else 1, r.2.2)
  refine go_aload_n (pc' := 1) dX10_bridge_0 rfl rfl (Nat.le_of_ble_eq_true rfl) ?_
  refine go_iload_n (pc' := 2) dX10_bridge_1 rfl rfl ?_
  obtain ⟨v1, k2, h⟩ := bd h
  by_cases c3 : v1.1 = 0
  · rw [if_pos c3] at h
    have k2 := l_C_existing (d + 4) n e σ x1 _ k2
    rw [c3] at k2
    refine go_call (kc := 20) (Mc := mt20) (v := some (pvR 0 0 v1.2)) (w' := (true, n, e, σ)) (pc' := 5) (st' := [pvR 0 0 v1.2]) [pvR 10 0 0, pvI x1] [] (Or.inl rfl) dX10_bridge_2 rfl rm_10_62 mtE20 rfl rfl rfl (Nat.le_of_ble_eq_true rfl) (Or.inr ⟨_, _, 0, rfl, Or.inl rfl⟩) k2 rfl ?_
    refine go_astore_n (L' := [some (pvR 10 0 0), some (pvI x1), some (pvI x2), some (pvR 0 0 v1.2), none, none]) (pc' := 6) dX10_bridge_5 rfl (Nat.le_of_ble_eq_true rfl) (Nat.le_of_ble_eq_true rfl) rfl ?_
    refine go_iload_n (pc' := 7) dX10_bridge_6 rfl rfl ?_
    refine go_iconst (pc' := 8) dX10_bridge_7 rfl (r32_c rfl) ?_
    obtain ⟨j4, k5, h⟩ := bd h
    have k5J : Go none (Ev (d + 6)) mt43 23 [some (pvR 10 0 0), some (pvI x1), some (pvI x2), some (pvR 0 0 v1.2), none, none] [pvI j4] (true, n, e, σ) (r.1, if r.1 = 0 then some (pvI r.2.1) else none, true, n, e + if r.1 = 0 then 0 else 1, r.2.2) := by
      refine go_istore (L' := [some (pvR 10 0 0), some (pvI x1), some (pvI x2), some (pvR 0 0 v1.2), some (pvI j4), none]) (pc' := 25) dX10_bridge_23 rfl (Nat.le_of_ble_eq_true rfl) rfl ?_
      refine go_iload (pc' := 27) dX10_bridge_25 rfl rfl ?_
      refine go_if_eq (t := 49) (pc' := 30) dX10_bridge_27 rfl rfl (fun c66 => ?_) (fun c66 => ?_)
      · rw [if_pos (show j4 = 0 from c66)] at h
        refine go_iload_n (pc' := 50) dX10_bridge_49 rfl rfl ?_
        refine go_iconst (pc' := 51) dX10_bridge_50 rfl (r32_c rfl) ?_
        refine go_sipush (pc' := 54) dX10_bridge_51 rfl (r32_c rfl) (by decide) ?_
        obtain ⟨v7, k8, h⟩ := bd h
        by_cases c9 : v7 = 0
        · rw [if_pos c9] at h
          have k8 := l_C_needRange (d + 5) n e σ x2 1 4095 _ k8
          rw [c9] at k8
          refine go_call (kc := 24) (Mc := mt24) (v := none) (w' := (true, n, e, σ)) (pc' := 57) (st' := []) [pvI x2, pvI 1, pvI 4095] [] (Or.inr (Or.inl rfl)) dX10_bridge_54 rfl rm_10_70 mtE24 rfl rfl rfl (Nat.le_of_ble_eq_true rfl) (Or.inl (by decide)) k8 rfl ?_
          refine go_iload_n (pc' := 58) dX10_bridge_57 rfl rfl ?_
          obtain ⟨v10, k11, h⟩ := bd h
          have k11 := l_JI_bitCount (d + 5) n e σ x2 _ k11
          refine go_call (kc := 44) (Mc := mt44) (v := some (pvI v10)) (w' := (true, n, e, σ)) (pc' := 61) (st' := [pvI v10]) [pvI x2] [] (Or.inr (Or.inl rfl)) dX10_bridge_58 rfl rm_10_115 mtE44 rfl rfl rfl (Nat.le_of_ble_eq_true rfl) (Or.inl (by decide)) k11 rfl ?_
          refine go_iconst (pc' := 62) dX10_bridge_61 rfl (r32_c rfl) ?_
          obtain ⟨j12, k13, h⟩ := bd h
          have k13J : Go none (Ev (d + 6)) mt43 78 [some (pvR 10 0 0), some (pvI x1), some (pvI x2), some (pvR 0 0 v1.2), some (pvI j4), none] [pvI j12] (true, n, e, σ) (r.1, if r.1 = 0 then some (pvI r.2.1) else none, true, n, e + if r.1 = 0 then 0 else 1, r.2.2) := by
            obtain ⟨v17, k18, h⟩ := bd h
            by_cases c19 : v17 = 0
            · rw [if_pos c19] at h
              have k18 := l_C_need (d + 5) n e σ j12 _ k18
              rw [c19] at k18
              refine go_call (kc := 26) (Mc := mt26) (v := none) (w' := (true, n, e, σ)) (pc' := 81) (st' := []) [pvI j12] [] (Or.inr (Or.inl rfl)) dX10_bridge_78 rfl rm_10_84 mtE26 rfl rfl rfl (Nat.le_of_ble_eq_true rfl) (Or.inl (by decide)) k18 rfl ?_
              refine go_aload_n (pc' := 82) dX10_bridge_81 rfl rfl (Nat.le_of_ble_eq_true rfl) ?_
              refine go_getI (pc' := 85) dX10_bridge_82 rfl rf_10_80 rfl ?_
              refine go_bipush (pc' := 87) dX10_bridge_85 rfl (r32_c rfl) (by decide) ?_
              obtain ⟨j20, k21, h⟩ := bd h
              have k21J : Go none (Ev (d + 6)) mt43 95 [some (pvR 10 0 0), some (pvI x1), some (pvI x2), some (pvR 0 0 v1.2), some (pvI j4), none] [pvI j20] (true, n, e, σ) (r.1, if r.1 = 0 then some (pvI r.2.1) else none, true, n, e + if r.1 = 0 then 0 else 1, r.2.2) := by
                obtain ⟨v22, k23, h⟩ := bd h
                by_cases c24 : v22 = 0
                · rw [if_pos c24] at h
                  have k23 := l_C_need (d + 5) n e σ j20 _ k23
                  rw [c24] at k23
                  refine go_call (kc := 26) (Mc := mt26) (v := none) (w' := (true, n, e, σ)) (pc' := 98) (st' := []) [pvI j20] [] (Or.inr (Or.inl rfl)) dX10_bridge_95 rfl rm_10_84 mtE26 rfl rfl rfl (Nat.le_of_ble_eq_true rfl) (Or.inl (by decide)) k23 rfl ?_
                  refine go_aload_n (pc' := 99) dX10_bridge_98 rfl rfl (Nat.le_of_ble_eq_true rfl) ?_
                  refine go_iload_n (pc' := 100) dX10_bridge_99 rfl rfl ?_
                  obtain ⟨v25, k26, h⟩ := bd h
                  have k26 := l_D_addBridge (d + 4) n e σ v1.2 x2 _ k26
                  refine go_call (kc := 46) (Mc := mt46) (v := some (pvI v25.1)) (w' := (true, n, e, v25.2)) (pc' := 103) (st' := [pvI v25.1]) [pvR 0 0 v1.2, pvI x2] [] (Or.inl rfl) dX10_bridge_100 rfl rm_10_124 mtE46 rfl rfl rfl (Nat.le_of_ble_eq_true rfl) (Or.inr ⟨_, _, v1.2, rfl, Or.inl rfl⟩) k26 rfl ?_
                  refine go_istore (L' := [some (pvR 10 0 0), some (pvI x1), some (pvI x2), some (pvR 0 0 v1.2), some (pvI j4), some (pvI v25.1)]) (pc' := 105) dX10_bridge_103 rfl (Nat.le_of_ble_eq_true rfl) rfl ?_
                  refine go_aload_n (pc' := 106) dX10_bridge_105 rfl rfl (Nat.le_of_ble_eq_true rfl) ?_
                  refine go_getR (k' := 7) (L0 := 0) (P' := 1) (pc' := 109) dX10_bridge_106 rfl rf_10_12 rfl rfl (by omega) ?_
                  obtain ⟨v27, k28, h⟩ := bd h
                  have k28 := l_S_weigh (d + 0) n e v25.2 _ k28
                  refine go_call (kc := 32) (Mc := mt32) (v := none) (w' := (true, n, e, v27)) (pc' := 112) (st' := []) [pvR 7 0 1] [] (Or.inl rfl) dX10_bridge_109 rfl rm_10_102 mtE32 rfl rfl rfl (Nat.le_of_ble_eq_true rfl) (Or.inr ⟨_, _, 1, rfl, Or.inl rfl⟩) k28 rfl ?_
                  refine go_aload_n (pc' := 113) dX10_bridge_112 rfl rfl (Nat.le_of_ble_eq_true rfl) ?_
                  refine go_getR (k' := 3) (L0 := 0) (P' := 108) (pc' := 116) dX10_bridge_113 rfl rf_10_35 rfl rfl (by omega) ?_
                  obtain ⟨v29, k30, h⟩ := bd h
                  have k30 := l_K_dropAll (d + 5) n e v27 _ k30
                  refine go_call (kc := 13) (Mc := mt13) (v := none) (w' := (true, n, e, v29)) (pc' := 119) (st' := []) [pvR 3 0 108] [] (Or.inl rfl) dX10_bridge_116 rfl rm_10_105 mtE13 rfl rfl rfl (Nat.le_of_ble_eq_true rfl) (Or.inr ⟨_, _, 108, rfl, Or.inl rfl⟩) k30 rfl ?_
                  refine go_iload (pc' := 121) dX10_bridge_119 rfl rfl ?_
                  cases h
                  exact go_iret dX10_bridge_121 rfl rfl
                · rw [if_neg c24] at h
                  obtain ⟨g31, h⟩ := gd h
                  cases h
                  have k23 := l_C_need (d + 5) n e σ j20 _ k23
                  simp only [if_neg c24] at k23 ⊢
                  exact go_callX (kc := 26) (Mc := mt26) [pvI j20] [] (Or.inr rfl) dX10_bridge_95 rm_10_84 mtE26 rfl rfl rfl (Nat.le_of_ble_eq_true rfl) (Or.inl (by decide)) rfl c24 g31 k23 rfl
              clear h
              have h := k21
              refine go_icmp_ge (t := 94) (pc' := 90) dX10_bridge_87 rfl rfl (fun c32 => ?_) (fun c32 => ?_)
              · rw [if_pos (show 12 ≤ (σ v1.2 0) from c32)] at h
                refine go_iconst (pc' := 95) dX10_bridge_94 rfl (r32_c rfl) ?_
                cases h
                exact k21J
              · rw [if_neg (show ¬ (12 ≤ (σ v1.2 0)) from c32)] at h
                refine go_iconst (pc' := 91) dX10_bridge_90 rfl (r32_c rfl) ?_
                refine go_goto (t := 95) dX10_bridge_91 rfl ?_
                cases h
                exact k21J
            · rw [if_neg c19] at h
              obtain ⟨g33, h⟩ := gd h
              cases h
              have k18 := l_C_need (d + 5) n e σ j12 _ k18
              simp only [if_neg c19] at k18 ⊢
              exact go_callX (kc := 26) (Mc := mt26) [pvI j12] [] (Or.inr rfl) dX10_bridge_78 rm_10_84 mtE26 rfl rfl rfl (Nat.le_of_ble_eq_true rfl) (Or.inl (by decide)) rfl c19 g33 k18 rfl
          clear h
          have h := k13
          refine go_icmp_gt (t := 77) (pc' := 65) dX10_bridge_62 rfl rfl (fun c34 => ?_) (fun c34 => ?_)
          · rw [if_pos (show 5 < v10 from c34)] at h
            refine go_iconst (pc' := 78) dX10_bridge_77 rfl (r32_c rfl) ?_
            cases h
            exact k13J
          · rw [if_neg (show ¬ (5 < v10) from c34)] at h
            refine go_aload_n (pc' := 66) dX10_bridge_65 rfl rfl (Nat.le_of_ble_eq_true rfl) ?_
            refine go_iload_n (pc' := 67) dX10_bridge_66 rfl rfl ?_
            obtain ⟨v14, k15, h⟩ := bd h
            have k15 := l_D_areAllPlain (d + 3) n e σ v1.2 x2 _ k15
            refine go_call (kc := 45) (Mc := mt45) (v := some (pvI v14)) (w' := (true, n, e, σ)) (pc' := 70) (st' := [pvI v14]) [pvR 0 0 v1.2, pvI x2] [] (Or.inl rfl) dX10_bridge_67 rfl rm_10_121 mtE45 rfl rfl rfl (Nat.le_of_ble_eq_true rfl) (Or.inr ⟨_, _, v1.2, rfl, Or.inl rfl⟩) k15 rfl ?_
            refine go_if_eq (t := 77) (pc' := 73) dX10_bridge_70 rfl rfl (fun c16 => ?_) (fun c16 => ?_)
            · rw [if_pos (show v14 = 0 from c16)] at h
              refine go_iconst (pc' := 78) dX10_bridge_77 rfl (r32_c rfl) ?_
              cases h
              exact k13J
            · rw [if_neg (show ¬ (v14 = 0) from c16)] at h
              refine go_iconst (pc' := 74) dX10_bridge_73 rfl (r32_c rfl) ?_
              refine go_goto (t := 78) dX10_bridge_74 rfl ?_
              cases h
              exact k13J
        · rw [if_neg c9] at h
          obtain ⟨g35, h⟩ := gd h
          cases h
          have k8 := l_C_needRange (d + 5) n e σ x2 1 4095 _ k8
          simp only [if_neg c9] at k8 ⊢
          exact go_callX (kc := 24) (Mc := mt24) [pvI x2, pvI 1, pvI 4095] [] (Or.inr rfl) dX10_bridge_54 rm_10_70 mtE24 rfl rfl rfl (Nat.le_of_ble_eq_true rfl) (Or.inl (by decide)) rfl c9 g35 k8 rfl
      · rw [if_neg (show ¬ (j4 = 0) from c66)] at h
        refine go_iload_n (pc' := 31) dX10_bridge_30 rfl rfl ?_
        refine go_aload_n (pc' := 32) dX10_bridge_31 rfl rfl (Nat.le_of_ble_eq_true rfl) ?_
        refine go_getI (pc' := 35) dX10_bridge_32 rfl rf_10_80 rfl ?_
        refine go_ishr (pc' := 36) dX10_bridge_35 rfl ?_
        refine go_if_eq (t := 49) (pc' := 39) dX10_bridge_36 rfl rfl (fun c65 => ?_) (fun c65 => ?_)
        · rw [if_pos (show (ishr x2 (σ v1.2 0)) = 0 from c65)] at h
          refine go_iload_n (pc' := 50) dX10_bridge_49 rfl rfl ?_
          refine go_iconst (pc' := 51) dX10_bridge_50 rfl (r32_c rfl) ?_
          refine go_sipush (pc' := 54) dX10_bridge_51 rfl (r32_c rfl) (by decide) ?_
          obtain ⟨v36, k37, h⟩ := bd h
          by_cases c38 : v36 = 0
          · rw [if_pos c38] at h
            have k37 := l_C_needRange (d + 5) n e σ x2 1 4095 _ k37
            rw [c38] at k37
            refine go_call (kc := 24) (Mc := mt24) (v := none) (w' := (true, n, e, σ)) (pc' := 57) (st' := []) [pvI x2, pvI 1, pvI 4095] [] (Or.inr (Or.inl rfl)) dX10_bridge_54 rfl rm_10_70 mtE24 rfl rfl rfl (Nat.le_of_ble_eq_true rfl) (Or.inl (by decide)) k37 rfl ?_
            refine go_iload_n (pc' := 58) dX10_bridge_57 rfl rfl ?_
            obtain ⟨v39, k40, h⟩ := bd h
            have k40 := l_JI_bitCount (d + 5) n e σ x2 _ k40
            refine go_call (kc := 44) (Mc := mt44) (v := some (pvI v39)) (w' := (true, n, e, σ)) (pc' := 61) (st' := [pvI v39]) [pvI x2] [] (Or.inr (Or.inl rfl)) dX10_bridge_58 rfl rm_10_115 mtE44 rfl rfl rfl (Nat.le_of_ble_eq_true rfl) (Or.inl (by decide)) k40 rfl ?_
            refine go_iconst (pc' := 62) dX10_bridge_61 rfl (r32_c rfl) ?_
            obtain ⟨j41, k42, h⟩ := bd h
            have k42J : Go none (Ev (d + 6)) mt43 78 [some (pvR 10 0 0), some (pvI x1), some (pvI x2), some (pvR 0 0 v1.2), some (pvI j4), none] [pvI j41] (true, n, e, σ) (r.1, if r.1 = 0 then some (pvI r.2.1) else none, true, n, e + if r.1 = 0 then 0 else 1, r.2.2) := by
              obtain ⟨v46, k47, h⟩ := bd h
              by_cases c48 : v46 = 0
              · rw [if_pos c48] at h
                have k47 := l_C_need (d + 5) n e σ j41 _ k47
                rw [c48] at k47
                refine go_call (kc := 26) (Mc := mt26) (v := none) (w' := (true, n, e, σ)) (pc' := 81) (st' := []) [pvI j41] [] (Or.inr (Or.inl rfl)) dX10_bridge_78 rfl rm_10_84 mtE26 rfl rfl rfl (Nat.le_of_ble_eq_true rfl) (Or.inl (by decide)) k47 rfl ?_
                refine go_aload_n (pc' := 82) dX10_bridge_81 rfl rfl (Nat.le_of_ble_eq_true rfl) ?_
                refine go_getI (pc' := 85) dX10_bridge_82 rfl rf_10_80 rfl ?_
                refine go_bipush (pc' := 87) dX10_bridge_85 rfl (r32_c rfl) (by decide) ?_
                obtain ⟨j49, k50, h⟩ := bd h
                have k50J : Go none (Ev (d + 6)) mt43 95 [some (pvR 10 0 0), some (pvI x1), some (pvI x2), some (pvR 0 0 v1.2), some (pvI j4), none] [pvI j49] (true, n, e, σ) (r.1, if r.1 = 0 then some (pvI r.2.1) else none, true, n, e + if r.1 = 0 then 0 else 1, r.2.2) := by
                  obtain ⟨v51, k52, h⟩ := bd h
                  by_cases c53 : v51 = 0
                  · rw [if_pos c53] at h
                    have k52 := l_C_need (d + 5) n e σ j49 _ k52
                    rw [c53] at k52
                    refine go_call (kc := 26) (Mc := mt26) (v := none) (w' := (true, n, e, σ)) (pc' := 98) (st' := []) [pvI j49] [] (Or.inr (Or.inl rfl)) dX10_bridge_95 rfl rm_10_84 mtE26 rfl rfl rfl (Nat.le_of_ble_eq_true rfl) (Or.inl (by decide)) k52 rfl ?_
                    refine go_aload_n (pc' := 99) dX10_bridge_98 rfl rfl (Nat.le_of_ble_eq_true rfl) ?_
                    refine go_iload_n (pc' := 100) dX10_bridge_99 rfl rfl ?_
                    obtain ⟨v54, k55, h⟩ := bd h
                    have k55 := l_D_addBridge (d + 4) n e σ v1.2 x2 _ k55
                    refine go_call (kc := 46) (Mc := mt46) (v := some (pvI v54.1)) (w' := (true, n, e, v54.2)) (pc' := 103) (st' := [pvI v54.1]) [pvR 0 0 v1.2, pvI x2] [] (Or.inl rfl) dX10_bridge_100 rfl rm_10_124 mtE46 rfl rfl rfl (Nat.le_of_ble_eq_true rfl) (Or.inr ⟨_, _, v1.2, rfl, Or.inl rfl⟩) k55 rfl ?_
                    refine go_istore (L' := [some (pvR 10 0 0), some (pvI x1), some (pvI x2), some (pvR 0 0 v1.2), some (pvI j4), some (pvI v54.1)]) (pc' := 105) dX10_bridge_103 rfl (Nat.le_of_ble_eq_true rfl) rfl ?_
                    refine go_aload_n (pc' := 106) dX10_bridge_105 rfl rfl (Nat.le_of_ble_eq_true rfl) ?_
                    refine go_getR (k' := 7) (L0 := 0) (P' := 1) (pc' := 109) dX10_bridge_106 rfl rf_10_12 rfl rfl (by omega) ?_
                    obtain ⟨v56, k57, h⟩ := bd h
                    have k57 := l_S_weigh (d + 0) n e v54.2 _ k57
                    refine go_call (kc := 32) (Mc := mt32) (v := none) (w' := (true, n, e, v56)) (pc' := 112) (st' := []) [pvR 7 0 1] [] (Or.inl rfl) dX10_bridge_109 rfl rm_10_102 mtE32 rfl rfl rfl (Nat.le_of_ble_eq_true rfl) (Or.inr ⟨_, _, 1, rfl, Or.inl rfl⟩) k57 rfl ?_
                    refine go_aload_n (pc' := 113) dX10_bridge_112 rfl rfl (Nat.le_of_ble_eq_true rfl) ?_
                    refine go_getR (k' := 3) (L0 := 0) (P' := 108) (pc' := 116) dX10_bridge_113 rfl rf_10_35 rfl rfl (by omega) ?_
                    obtain ⟨v58, k59, h⟩ := bd h
                    have k59 := l_K_dropAll (d + 5) n e v56 _ k59
                    refine go_call (kc := 13) (Mc := mt13) (v := none) (w' := (true, n, e, v58)) (pc' := 119) (st' := []) [pvR 3 0 108] [] (Or.inl rfl) dX10_bridge_116 rfl rm_10_105 mtE13 rfl rfl rfl (Nat.le_of_ble_eq_true rfl) (Or.inr ⟨_, _, 108, rfl, Or.inl rfl⟩) k59 rfl ?_
                    refine go_iload (pc' := 121) dX10_bridge_119 rfl rfl ?_
                    cases h
                    exact go_iret dX10_bridge_121 rfl rfl
                  · rw [if_neg c53] at h
                    obtain ⟨g60, h⟩ := gd h
                    cases h
                    have k52 := l_C_need (d + 5) n e σ j49 _ k52
                    simp only [if_neg c53] at k52 ⊢
                    exact go_callX (kc := 26) (Mc := mt26) [pvI j49] [] (Or.inr rfl) dX10_bridge_95 rm_10_84 mtE26 rfl rfl rfl (Nat.le_of_ble_eq_true rfl) (Or.inl (by decide)) rfl c53 g60 k52 rfl
                clear h
                have h := k50
                refine go_icmp_ge (t := 94) (pc' := 90) dX10_bridge_87 rfl rfl (fun c61 => ?_) (fun c61 => ?_)
                · rw [if_pos (show 12 ≤ (σ v1.2 0) from c61)] at h
                  refine go_iconst (pc' := 95) dX10_bridge_94 rfl (r32_c rfl) ?_
                  cases h
                  exact k50J
                · rw [if_neg (show ¬ (12 ≤ (σ v1.2 0)) from c61)] at h
                  refine go_iconst (pc' := 91) dX10_bridge_90 rfl (r32_c rfl) ?_
                  refine go_goto (t := 95) dX10_bridge_91 rfl ?_
                  cases h
                  exact k50J
              · rw [if_neg c48] at h
                obtain ⟨g62, h⟩ := gd h
                cases h
                have k47 := l_C_need (d + 5) n e σ j41 _ k47
                simp only [if_neg c48] at k47 ⊢
                exact go_callX (kc := 26) (Mc := mt26) [pvI j41] [] (Or.inr rfl) dX10_bridge_78 rm_10_84 mtE26 rfl rfl rfl (Nat.le_of_ble_eq_true rfl) (Or.inl (by decide)) rfl c48 g62 k47 rfl
            clear h
            have h := k42
            refine go_icmp_gt (t := 77) (pc' := 65) dX10_bridge_62 rfl rfl (fun c63 => ?_) (fun c63 => ?_)
            · rw [if_pos (show 5 < v39 from c63)] at h
              refine go_iconst (pc' := 78) dX10_bridge_77 rfl (r32_c rfl) ?_
              cases h
              exact k42J
            · rw [if_neg (show ¬ (5 < v39) from c63)] at h
              refine go_aload_n (pc' := 66) dX10_bridge_65 rfl rfl (Nat.le_of_ble_eq_true rfl) ?_
              refine go_iload_n (pc' := 67) dX10_bridge_66 rfl rfl ?_
              obtain ⟨v43, k44, h⟩ := bd h
              have k44 := l_D_areAllPlain (d + 3) n e σ v1.2 x2 _ k44
              refine go_call (kc := 45) (Mc := mt45) (v := some (pvI v43)) (w' := (true, n, e, σ)) (pc' := 70) (st' := [pvI v43]) [pvR 0 0 v1.2, pvI x2] [] (Or.inl rfl) dX10_bridge_67 rfl rm_10_121 mtE45 rfl rfl rfl (Nat.le_of_ble_eq_true rfl) (Or.inr ⟨_, _, v1.2, rfl, Or.inl rfl⟩) k44 rfl ?_
              refine go_if_eq (t := 77) (pc' := 73) dX10_bridge_70 rfl rfl (fun c45 => ?_) (fun c45 => ?_)
              · rw [if_pos (show v43 = 0 from c45)] at h
                refine go_iconst (pc' := 78) dX10_bridge_77 rfl (r32_c rfl) ?_
                cases h
                exact k42J
              · rw [if_neg (show ¬ (v43 = 0) from c45)] at h
                refine go_iconst (pc' := 74) dX10_bridge_73 rfl (r32_c rfl) ?_
                refine go_goto (t := 78) dX10_bridge_74 rfl ?_
                cases h
                exact k42J
          · rw [if_neg c38] at h
            obtain ⟨g64, h⟩ := gd h
            cases h
            have k37 := l_C_needRange (d + 5) n e σ x2 1 4095 _ k37
            simp only [if_neg c38] at k37 ⊢
            exact go_callX (kc := 24) (Mc := mt24) [pvI x2, pvI 1, pvI 4095] [] (Or.inr rfl) dX10_bridge_54 rm_10_70 mtE24 rfl rfl rfl (Nat.le_of_ble_eq_true rfl) (Or.inl (by decide)) rfl c38 g64 k37 rfl
        · rw [if_neg (show ¬ ((ishr x2 (σ v1.2 0)) = 0) from c65)] at h
          cases h
          exact go_throw (x := 1) (ic := 112) (ln := 2) (tx := "no such member") dX10_bridge_39 rt_10_108 rfl rfl (Nat.le_of_ble_eq_true rfl) dX10_bridge_42 (Or.inl ⟨dX10_bridge_43, rfl⟩) dX10_bridge_45 dX10_bridge_48 (Or.inl ⟨rfl, rfl⟩) (by decide +kernel) rfl
    clear h
    have h := k5
    refine go_icmp_lt (t := 22) (pc' := 11) dX10_bridge_8 rfl rfl (fun c67 => ?_) (fun c67 => ?_)
    · rw [if_pos (show x2 < 1 from c67)] at h
      refine go_iconst (pc' := 23) dX10_bridge_22 rfl (r32_c rfl) ?_
      cases h
      exact k5J
    · rw [if_neg (show ¬ (x2 < 1) from c67)] at h
      refine go_iload_n (pc' := 12) dX10_bridge_11 rfl rfl ?_
      refine go_sipush (pc' := 15) dX10_bridge_12 rfl (r32_c rfl) (by decide) ?_
      refine go_icmp_gt (t := 22) (pc' := 18) dX10_bridge_15 rfl rfl (fun c6 => ?_) (fun c6 => ?_)
      · rw [if_pos (show 4095 < x2 from c6)] at h
        refine go_iconst (pc' := 23) dX10_bridge_22 rfl (r32_c rfl) ?_
        cases h
        exact k5J
      · rw [if_neg (show ¬ (4095 < x2) from c6)] at h
        refine go_iconst (pc' := 19) dX10_bridge_18 rfl (r32_c rfl) ?_
        refine go_goto (t := 23) dX10_bridge_19 rfl ?_
        cases h
        exact k5J
  · rw [if_neg c3] at h
    obtain ⟨g68, h⟩ := gd h
    cases h
    have k2 := l_C_existing (d + 4) n e σ x1 _ k2
    simp only [if_neg c3] at k2 ⊢
    exact go_callX (kc := 20) (Mc := mt20) [pvR 10 0 0, pvI x1] [] (Or.inl rfl) dX10_bridge_2 rm_10_62 mtE20 rfl rfl rfl (Nat.le_of_ble_eq_true rfl) (Or.inr ⟨_, _, 0, rfl, Or.inl rfl⟩) rfl c3 g68 k2 rfl

set_option maxRecDepth 10000 in
theorem l_L_bridge (d : Nat) (n e : Nat) (σ : Hp) (x2 : Int) (x3 : Int) (r : Int × Nat × Hp) (h : f_L_bridge σ e x2 x3 = some r) : Ev (d + 8) 42 [pvR 10 0 0, pvI x2, pvI x3, pvR 13 1 170] (true, n, e, σ) (0, some (pvI r.1), true, n, r.2.1, r.2.2) := by
  unfold f_L_bridge at h
  refine Ev.of mtE42 rfl rfl rfl rfl ?_
  show Go none (Ev (d + 7)) mt42 0 [some (pvR 10 0 0), some (pvI x2), some (pvI x3), some (pvR 13 1 170), none] [] (true, n, e, σ) (0, some (pvI r.1), true, n, r.2.1, r.2.2)
  refine go_aload_n (pc' := 1) dL_bridge_0 rfl rfl (Nat.le_of_ble_eq_true rfl) ?_
  refine go_iconst (pc' := 2) dL_bridge_1 rfl (r32_c rfl) ?_
  refine go_aload_n (pc' := 3) dL_bridge_2 rfl rfl (Nat.le_of_ble_eq_true rfl) ?_
  refine go_iload_n (pc' := 4) dL_bridge_3 rfl rfl ?_
  refine go_iload_n (pc' := 5) dL_bridge_4 rfl rfl ?_
  obtain ⟨v1, k2, h⟩ := bd h
  by_cases c3 : v1.1 = 0
  · rw [if_pos c3] at h
    have k2 := l_C_bridge (d + 0) n e σ x2 x3 _ k2
    rw [c3] at k2
    refine go_call (kc := 43) (Mc := mt43) (v := some (pvI v1.2.1)) (w' := (true, n, e, v1.2.2)) (pc' := 8) (st' := [pvI v1.2.1, pvI 0, pvR 13 1 170]) [pvR 10 0 0, pvI x2, pvI x3] [pvI 0, pvR 13 1 170] (Or.inl rfl) dL_bridge_5 rfl rm_12_19 mtE43 rfl rfl rfl (Nat.le_of_ble_eq_true rfl) (Or.inr ⟨_, _, 0, rfl, Or.inl rfl⟩) k2 rfl ?_
    refine go_i2l (pc' := 9) dL_bridge_8 rfl ?_
    obtain ⟨g4, h⟩ := gd h
    refine go_last (pc' := 10) dL_bridge_9 rfl g4 ?_
    refine go_goto (t := 25) dL_bridge_10 rfl ?_
    refine go_iconst (pc' := 26) dL_bridge_25 rfl (r32_c rfl) ?_
    cases h
    exact go_iret dL_bridge_26 rfl rfl
  · rw [if_neg c3] at h
    by_cases c5 : v1.1 = 1
    · rw [if_pos c5] at h
      have k2 := l_C_bridge (d + 0) n e σ x2 x3 _ k2
      rw [c5] at k2
      refine go_callH (x := 1) (kc := 43) (Mc := mt43) (h := 13) (i := 4) (ln := 2) (w' := (true, n, (e + 1), v1.2.2)) (pc' := 15) (L' := [some (pvR 10 0 0), some (pvI x2), some (pvI x3), some (pvR 13 1 170), none]) [pvR 10 0 0, pvI x2, pvI x3] [pvI 0, pvR 13 1 170] (Or.inl rfl) dL_bridge_5 rm_12_19 mtE43 rfl rfl rfl (Nat.le_of_ble_eq_true rfl) (Or.inr ⟨_, _, 0, rfl, Or.inl rfl⟩) (by decide +kernel) (by decide) (by decide) (Or.inl ⟨dL_bridge_13, rfl⟩) (Nat.le_of_ble_eq_true rfl) rfl rfl k2 ?_
      refine go_iconst (pc' := 16) dL_bridge_15 rfl (r32_c rfl) ?_
      cases h
      exact go_iret dL_bridge_16 rfl rfl
    · rw [if_neg c5] at h
      by_cases c6 : v1.1 = 2
      · rw [if_pos c6] at h
        have k2 := l_C_bridge (d + 0) n e σ x2 x3 _ k2
        rw [c6] at k2
        refine go_callH (x := 2) (kc := 43) (Mc := mt43) (h := 17) (i := 4) (ln := 2) (w' := (true, n, (e + 1), v1.2.2)) (pc' := 19) (L' := [some (pvR 10 0 0), some (pvI x2), some (pvI x3), some (pvR 13 1 170), none]) [pvR 10 0 0, pvI x2, pvI x3] [pvI 0, pvR 13 1 170] (Or.inl rfl) dL_bridge_5 rm_12_19 mtE43 rfl rfl rfl (Nat.le_of_ble_eq_true rfl) (Or.inr ⟨_, _, 0, rfl, Or.inl rfl⟩) (by decide +kernel) (by decide) (by decide) (Or.inl ⟨dL_bridge_17, rfl⟩) (Nat.le_of_ble_eq_true rfl) rfl rfl k2 ?_
        refine go_iconst (pc' := 20) dL_bridge_19 rfl (r32_c rfl) ?_
        cases h
        exact go_iret dL_bridge_20 rfl rfl
      · rw [if_neg c6] at h
        by_cases c7 : v1.1 = 3
        · rw [if_pos c7] at h
          have k2 := l_C_bridge (d + 0) n e σ x2 x3 _ k2
          rw [c7] at k2
          refine go_callH (x := 3) (kc := 43) (Mc := mt43) (h := 21) (i := 4) (ln := 2) (w' := (true, n, (e + 1), v1.2.2)) (pc' := 23) (L' := [some (pvR 10 0 0), some (pvI x2), some (pvI x3), some (pvR 13 1 170), none]) [pvR 10 0 0, pvI x2, pvI x3] [pvI 0, pvR 13 1 170] (Or.inl rfl) dL_bridge_5 rm_12_19 mtE43 rfl rfl rfl (Nat.le_of_ble_eq_true rfl) (Or.inr ⟨_, _, 0, rfl, Or.inl rfl⟩) (by decide +kernel) (by decide) (by decide) (Or.inl ⟨dL_bridge_21, rfl⟩) (Nat.le_of_ble_eq_true rfl) rfl rfl k2 ?_
          refine go_iconst (pc' := 24) dL_bridge_23 rfl (r32_c rfl) ?_
          cases h
          exact go_iret dL_bridge_24 rfl rfl
        · rw [if_neg c7] at h
          cases h

set_option maxRecDepth 10000 in
theorem l_S_movesTold (d : Nat) (n e : Nat) (σ : Hp) (r : Int) (h : f_S_movesTold σ = some r) : Ev (d + 1) 49 [pvR 7 0 1] (true, n, e, σ) (0, some (pvI r), true, n, e, σ) := by
  unfold f_S_movesTold at h
  refine Ev.of mtE49 rfl rfl rfl rfl ?_
  show Go none (Ev (d + 0)) mt49 0 [some (pvR 7 0 1)] [] (true, n, e, σ) (0, some (pvI r), true, n, e, σ)
  refine go_aload_n (pc' := 1) dX7_movesTold_0 rfl rfl (Nat.le_of_ble_eq_true rfl) ?_
  refine go_getR (k' := 0) (L0 := 0) (P' := 32) (pc' := 4) dX7_movesTold_1 rfl rf_7_18 rfl rfl (by omega) ?_
  refine go_getR (k' := 5) (L0 := 0) (P' := 33) (pc' := 7) dX7_movesTold_4 rfl rf_7_31 rfl rfl (by omega) ?_
  refine go_getI (pc' := 10) dX7_movesTold_7 rfl rf_7_35 rfl ?_
  refine go_aload_n (pc' := 11) dX7_movesTold_10 rfl rfl (Nat.le_of_ble_eq_true rfl) ?_
  refine go_getR (k' := 0) (L0 := 0) (P' := 62) (pc' := 14) dX7_movesTold_11 rfl rf_7_21 rfl rfl (by omega) ?_
  refine go_getR (k' := 5) (L0 := 0) (P' := 63) (pc' := 17) dX7_movesTold_14 rfl rf_7_31 rfl rfl (by omega) ?_
  refine go_getI (pc' := 20) dX7_movesTold_17 rfl rf_7_35 rfl ?_
  obtain ⟨g1, h⟩ := gd h
  refine go_iadd (pc' := 21) dX7_movesTold_20 rfl g1 ?_
  cases h
  exact go_iret dX7_movesTold_21 rfl rfl

set_option maxRecDepth 10000 in
theorem l_D_parentOf (d : Nat) (n e : Nat) (σ : Hp) (p : Nat) (x1 : Int) (r : Int) (h : f_D_parentOf σ p x1 = some r) : Ev (d + 2) 50 [pvR 0 0 p, pvI x1] (true, n, e, σ) (0, some (pvI r), true, n, e, σ) := by
  unfold f_D_parentOf at h
  refine Ev.of mtE50 rfl rfl rfl rfl ?_
  show Go none (Ev (d + 1)) mt50 0 [some (pvR 0 0 p), some (pvI x1)] [] (true, n, e, σ) (0, some (pvI r), true, n, e, σ)
  refine go_aload_n (pc' := 1) dX0_parentOf_0 rfl rfl (Nat.le_of_ble_eq_true rfl) ?_
  refine go_iload_n (pc' := 2) dX0_parentOf_1 rfl rfl ?_
  obtain ⟨v1, k2, h⟩ := bd h
  have k2 := l_D_has (d + 0) n e σ p x1 _ k2
  refine go_call (kc := 23) (Mc := mt23) (v := some (pvI v1)) (w' := (true, n, e, σ)) (pc' := 5) (st' := [pvI v1]) [pvR 0 0 p, pvI x1] [] (Or.inl rfl) dX0_parentOf_2 rfl rm_0_65 mtE23 rfl rfl rfl (Nat.le_of_ble_eq_true rfl) (Or.inr ⟨_, _, p, rfl, Or.inl rfl⟩) k2 rfl ?_
  obtain ⟨j3, k4, h⟩ := bd h
  have k4J : Go none (Ev (d + 1)) mt50 27 [some (pvR 0 0 p), some (pvI x1)] [pvI j3] (true, n, e, σ) (0, some (pvI r), true, n, e, σ) := by
    cases h
    exact go_iret dX0_parentOf_27 rfl rfl
  clear h
  have h := k4
  refine go_if_eq (t := 26) (pc' := 8) dX0_parentOf_5 rfl rfl (fun c8 => ?_) (fun c8 => ?_)
  · rw [if_pos (show v1 = 0 from c8)] at h
    refine go_iconst (pc' := 27) dX0_parentOf_26 rfl (r32_c rfl) ?_
    cases h
    exact k4J
  · rw [if_neg (show ¬ (v1 = 0) from c8)] at h
    refine go_aload_n (pc' := 9) dX0_parentOf_8 rfl rfl (Nat.le_of_ble_eq_true rfl) ?_
    refine go_getR (k' := 12) (L0 := 12) (P' := (p + 5)) (pc' := 12) dX0_parentOf_9 rfl rf_0_22 rfl rfl (by omega) ?_
    refine go_iload_n (pc' := 13) dX0_parentOf_12 rfl rfl ?_
    obtain ⟨g5, h⟩ := gd h
    refine go_iald (pc' := 14) dX0_parentOf_13 rfl g5 ?_
    refine go_if_ne (t := 26) (pc' := 17) dX0_parentOf_14 rfl rfl (fun c7 => ?_) (fun c7 => ?_)
    · rw [if_pos (show (σ (p + 5) x1) ≠ 0 from c7)] at h
      refine go_iconst (pc' := 27) dX0_parentOf_26 rfl (r32_c rfl) ?_
      cases h
      exact k4J
    · rw [if_neg (show ¬ ((σ (p + 5) x1) ≠ 0) from c7)] at h
      refine go_aload_n (pc' := 18) dX0_parentOf_17 rfl rfl (Nat.le_of_ble_eq_true rfl) ?_
      refine go_getR (k' := 12) (L0 := 12) (P' := (p + 13)) (pc' := 21) dX0_parentOf_18 rfl rf_0_51 rfl rfl (by omega) ?_
      refine go_iload_n (pc' := 22) dX0_parentOf_21 rfl rfl ?_
      obtain ⟨g6, h⟩ := gd h
      refine go_iald (pc' := 23) dX0_parentOf_22 rfl g6 ?_
      refine go_goto (t := 27) dX0_parentOf_23 rfl ?_
      cases h
      exact k4J

set_option maxRecDepth 10000 in
theorem l_MV_tell (d : Nat) (n e : Nat) (σ : Hp) (p : Nat) (x1 : Int) (x2 : Int) (x3 : Int) (r : Hp) (h : f_MV_tell σ p x1 x2 x3 = some r) : Ev (d + 1) 51 [pvR 5 0 p, pvI x1, pvI x2, pvI x3] (true, n, e, σ) (0, none, true, n, e, r) := by
  unfold f_MV_tell at h
  refine Ev.of mtE51 rfl rfl rfl rfl ?_
  show Go none (Ev (d + 0)) mt51 0 [some (pvR 5 0 p), some (pvI x1), some (pvI x2), some (pvI x3)] [] (true, n, e, σ) (0, none, true, n, e, r)
  refine go_aload_n (pc' := 1) dX5_tell_0 rfl rfl (Nat.le_of_ble_eq_true rfl) ?_
  refine go_getI (pc' := 4) dX5_tell_1 rfl rf_5_21 rfl ?_
  refine go_bipush (pc' := 6) dX5_tell_4 rfl (r32_c rfl) (by decide) ?_
  obtain ⟨j1, k2, h⟩ := bd h
  have k2J : Go none (Ev (d + 0)) mt51 49 [some (pvR 5 0 p), some (pvI x1), some (pvI x2), some (pvI x3)] [] (true, n, e, j1) (0, none, true, n, e, r) := by
    cases h
    exact go_vret dX5_tell_49 rfl rfl
  clear h
  have h := k2
  refine go_icmp_ge (t := 49) (pc' := 9) dX5_tell_6 rfl rfl (fun c7 => ?_) (fun c7 => ?_)
  · rw [if_pos (show 10 ≤ (σ p 0) from c7)] at h
    cases h
    exact k2J
  · rw [if_neg (show ¬ (10 ≤ (σ p 0)) from c7)] at h
    refine go_aload_n (pc' := 10) dX5_tell_9 rfl rfl (Nat.le_of_ble_eq_true rfl) ?_
    refine go_getR (k' := 12) (L0 := 10) (P' := (p + 1)) (pc' := 13) dX5_tell_10 rfl rf_5_9 rfl rfl (by omega) ?_
    refine go_aload_n (pc' := 14) dX5_tell_13 rfl rfl (Nat.le_of_ble_eq_true rfl) ?_
    refine go_getI (pc' := 17) dX5_tell_14 rfl rf_5_21 rfl ?_
    refine go_iload_n (pc' := 18) dX5_tell_17 rfl rfl ?_
    obtain ⟨g3, h⟩ := gd h
    refine go_iast (pc' := 19) dX5_tell_18 rfl g3 ?_
    refine go_aload_n (pc' := 20) dX5_tell_19 rfl rfl (Nat.le_of_ble_eq_true rfl) ?_
    refine go_getR (k' := 12) (L0 := 10) (P' := (p + 2)) (pc' := 23) dX5_tell_20 rfl rf_5_15 rfl rfl (by omega) ?_
    refine go_aload_n (pc' := 24) dX5_tell_23 rfl rfl (Nat.le_of_ble_eq_true rfl) ?_
    refine go_getI (pc' := 27) dX5_tell_24 rfl rf_5_21 rfl ?_
    refine go_iload_n (pc' := 28) dX5_tell_27 rfl rfl ?_
    obtain ⟨g4, h⟩ := gd h
    refine go_iast (pc' := 29) dX5_tell_28 rfl g4 ?_
    refine go_aload_n (pc' := 30) dX5_tell_29 rfl rfl (Nat.le_of_ble_eq_true rfl) ?_
    refine go_getR (k' := 12) (L0 := 10) (P' := (p + 3)) (pc' := 33) dX5_tell_30 rfl rf_5_18 rfl rfl (by omega) ?_
    refine go_aload_n (pc' := 34) dX5_tell_33 rfl rfl (Nat.le_of_ble_eq_true rfl) ?_
    refine go_getI (pc' := 37) dX5_tell_34 rfl rf_5_21 rfl ?_
    refine go_iload_n (pc' := 38) dX5_tell_37 rfl rfl ?_
    obtain ⟨g5, h⟩ := gd h
    refine go_iast (pc' := 39) dX5_tell_38 rfl g5 ?_
    refine go_aload_n (pc' := 40) dX5_tell_39 rfl rfl (Nat.le_of_ble_eq_true rfl) ?_
    refine go_dup (pc' := 41) dX5_tell_40 rfl (Nat.ne_of_beq_eq_false rfl) ?_
    refine go_getI (pc' := 44) dX5_tell_41 rfl rf_5_21 rfl ?_
    refine go_iconst (pc' := 45) dX5_tell_44 rfl (r32_c rfl) ?_
    obtain ⟨g6, h⟩ := gd h
    refine go_iadd (pc' := 46) dX5_tell_45 rfl g6 ?_
    refine go_putI (pc' := 49) dX5_tell_46 rfl rf_5_21 rfl ?_
    cases h
    exact k2J

set_option maxRecDepth 10000 in
theorem l_C_move (d : Nat) (n e : Nat) (σ : Hp) (x1 : Int) (x2 : Int) (x3 : Int) (x4 : Int) (r : Nat × Int × Hp) (h : f_C_move σ x1 x2 x3 x4 = some r) : Ev (d + 7) 48 [pvR 10 0 0, pvI x1, pvI x2, pvI x3, pvI x4] (true, n, e, σ) (r.1, if r.1 = 0 then some (pvI r.2.1) else none, true, n, e + if r.1 = 0 then 0 else 1, r.2.2) := by
  unfold f_C_move at h
  refine Ev.of mtE48 rfl rfl rfl rfl ?_
  show Go none (Ev (d + 6)) mt48 0 [some (pvR 10 0 0), some (pvI x1), some (pvI x2), some (pvI x3), some (pvI x4), none, none] [] (true, n, e, σ) (r.1, if r.1 = 0 then some (pvI r.2.1) else none, true, n, e + if r.1 = 0 then 0 else 1, r.2.2)
  refine go_aload_n (pc' := 1) dX10_move_0 rfl rfl (Nat.le_of_ble_eq_true rfl) ?_
  refine go_iload_n (pc' := 2) dX10_move_1 rfl rfl ?_
  obtain ⟨v1, k2, h⟩ := bd h
  by_cases c3 : v1.1 = 0
  · rw [if_pos c3] at h
    have k2 := l_C_existing (d + 4) n e σ x1 _ k2
    rw [c3] at k2
    refine go_call (kc := 20) (Mc := mt20) (v := some (pvR 0 0 v1.2)) (w' := (true, n, e, σ)) (pc' := 5) (st' := [pvR 0 0 v1.2]) [pvR 10 0 0, pvI x1] [] (Or.inl rfl) dX10_move_2 rfl rm_10_62 mtE20 rfl rfl rfl (Nat.le_of_ble_eq_true rfl) (Or.inr ⟨_, _, 0, rfl, Or.inl rfl⟩) k2 rfl ?_
    refine go_astore (L' := [some (pvR 10 0 0), some (pvI x1), some (pvI x2), some (pvI x3), some (pvI x4), some (pvR 0 0 v1.2), none]) (pc' := 7) dX10_move_5 rfl (Nat.le_of_ble_eq_true rfl) (Nat.le_of_ble_eq_true rfl) rfl ?_
    refine go_aload (pc' := 9) dX10_move_7 rfl rfl (Nat.le_of_ble_eq_true rfl) ?_
    refine go_iload_n (pc' := 10) dX10_move_9 rfl rfl ?_
    obtain ⟨v4, k5, h⟩ := bd h
    by_cases c6 : v4 = 0
    · rw [if_pos c6] at h
      have k5 := l_C_needMember (d + 4) n e σ v1.2 x2 _ k5
      rw [c6] at k5
      refine go_call (kc := 22) (Mc := mt22) (v := none) (w' := (true, n, e, σ)) (pc' := 13) (st' := []) [pvR 0 0 v1.2, pvI x2] [] (Or.inr (Or.inl rfl)) dX10_move_10 rfl rm_10_66 mtE22 rfl rfl rfl (Nat.le_of_ble_eq_true rfl) (Or.inl (by decide)) k5 rfl ?_
      refine go_aload (pc' := 15) dX10_move_13 rfl rfl (Nat.le_of_ble_eq_true rfl) ?_
      refine go_iload_n (pc' := 16) dX10_move_15 rfl rfl ?_
      obtain ⟨v7, k8, h⟩ := bd h
      by_cases c9 : v7 = 0
      · rw [if_pos c9] at h
        have k8 := l_C_needMember (d + 4) n e σ v1.2 x3 _ k8
        rw [c9] at k8
        refine go_call (kc := 22) (Mc := mt22) (v := none) (w' := (true, n, e, σ)) (pc' := 19) (st' := []) [pvR 0 0 v1.2, pvI x3] [] (Or.inr (Or.inl rfl)) dX10_move_16 rfl rm_10_66 mtE22 rfl rfl rfl (Nat.le_of_ble_eq_true rfl) (Or.inl (by decide)) k8 rfl ?_
        refine go_aload_n (pc' := 20) dX10_move_19 rfl rfl (Nat.le_of_ble_eq_true rfl) ?_
        refine go_getR (k' := 7) (L0 := 0) (P' := 1) (pc' := 23) dX10_move_20 rfl rf_10_12 rfl rfl (by omega) ?_
        refine go_getR (k' := 0) (L0 := 0) (P' := 2) (pc' := 26) dX10_move_23 rfl rf_10_127 rfl rfl (by omega) ?_
        refine go_iload (pc' := 28) dX10_move_26 rfl rfl ?_
        obtain ⟨v10, k11, h⟩ := bd h
        by_cases c12 : v10 = 0
        · rw [if_pos c12] at h
          have k11 := l_C_needMember (d + 4) n e σ 2 x4 _ k11
          rw [c12] at k11
          refine go_call (kc := 22) (Mc := mt22) (v := none) (w' := (true, n, e, σ)) (pc' := 31) (st' := []) [pvR 0 0 2, pvI x4] [] (Or.inr (Or.inl rfl)) dX10_move_28 rfl rm_10_66 mtE22 rfl rfl rfl (Nat.le_of_ble_eq_true rfl) (Or.inl (by decide)) k11 rfl ?_
          refine go_iload_n (pc' := 32) dX10_move_31 rfl rfl ?_
          refine go_if_eq (t := 39) (pc' := 35) dX10_move_32 rfl rfl (fun c47 => ?_) (fun c47 => ?_)
          · rw [if_pos (show x1 = 0 from c47)] at h
            cases h
            exact go_throw (x := 1) (ic := 112) (ln := 2) (tx := "it cannot be moved") dX10_move_39 rt_10_108 rfl rfl (Nat.le_of_ble_eq_true rfl) dX10_move_42 (Or.inl ⟨dX10_move_43, rfl⟩) dX10_move_45 dX10_move_48 (Or.inl ⟨rfl, rfl⟩) (by decide +kernel) rfl
          · rw [if_neg (show ¬ (x1 = 0) from c47)] at h
            refine go_iload_n (pc' := 36) dX10_move_35 rfl rfl ?_
            refine go_if_ne (t := 49) (pc' := 39) dX10_move_36 rfl rfl (fun c46 => ?_) (fun c46 => ?_)
            · rw [if_pos (show x2 ≠ 0 from c46)] at h
              refine go_aload (pc' := 51) dX10_move_49 rfl rfl (Nat.le_of_ble_eq_true rfl) ?_
              refine go_iload_n (pc' := 52) dX10_move_51 rfl rfl ?_
              obtain ⟨v13, k14, h⟩ := bd h
              have k14 := l_D_isPlain (d + 4) n e σ v1.2 x2 _ k14
              refine go_call (kc := 25) (Mc := mt25) (v := some (pvI v13)) (w' := (true, n, e, σ)) (pc' := 55) (st' := [pvI v13]) [pvR 0 0 v1.2, pvI x2] [] (Or.inl rfl) dX10_move_52 rfl rm_10_74 mtE25 rfl rfl rfl (Nat.le_of_ble_eq_true rfl) (Or.inr ⟨_, _, v1.2, rfl, Or.inl rfl⟩) k14 rfl ?_
              obtain ⟨j15, k16, h⟩ := bd h
              have k16J : Go none (Ev (d + 6)) mt48 87 [some (pvR 10 0 0), some (pvI x1), some (pvI x2), some (pvI x3), some (pvI x4), some (pvR 0 0 v1.2), none] [pvI j15] (true, n, e, σ) (r.1, if r.1 = 0 then some (pvI r.2.1) else none, true, n, e + if r.1 = 0 then 0 else 1, r.2.2) := by
                obtain ⟨v23, k24, h⟩ := bd h
                by_cases c25 : v23 = 0
                · rw [if_pos c25] at h
                  have k24 := l_C_need (d + 5) n e σ j15 _ k24
                  rw [c25] at k24
                  refine go_call (kc := 26) (Mc := mt26) (v := none) (w' := (true, n, e, σ)) (pc' := 90) (st' := []) [pvI j15] [] (Or.inr (Or.inl rfl)) dX10_move_87 rfl rm_10_84 mtE26 rfl rfl rfl (Nat.le_of_ble_eq_true rfl) (Or.inl (by decide)) k24 rfl ?_
                  refine go_iload_n (pc' := 91) dX10_move_90 rfl rfl ?_
                  refine go_iload_n (pc' := 92) dX10_move_91 rfl rfl ?_
                  obtain ⟨j26, k27, h⟩ := bd h
                  have k27J : Go none (Ev (d + 6)) mt48 112 [some (pvR 10 0 0), some (pvI x1), some (pvI x2), some (pvI x3), some (pvI x4), some (pvR 0 0 v1.2), none] [pvI j26] (true, n, e, σ) (r.1, if r.1 = 0 then some (pvI r.2.1) else none, true, n, e + if r.1 = 0 then 0 else 1, r.2.2) := by
                    obtain ⟨v31, k32, h⟩ := bd h
                    by_cases c33 : v31 = 0
                    · rw [if_pos c33] at h
                      have k32 := l_C_need (d + 5) n e σ j26 _ k32
                      rw [c33] at k32
                      refine go_call (kc := 26) (Mc := mt26) (v := none) (w' := (true, n, e, σ)) (pc' := 115) (st' := []) [pvI j26] [] (Or.inr (Or.inl rfl)) dX10_move_112 rfl rm_10_84 mtE26 rfl rfl rfl (Nat.le_of_ble_eq_true rfl) (Or.inl (by decide)) k32 rfl ?_
                      refine go_aload (pc' := 117) dX10_move_115 rfl rfl (Nat.le_of_ble_eq_true rfl) ?_
                      refine go_iload_n (pc' := 118) dX10_move_117 rfl rfl ?_
                      obtain ⟨v34, k35, h⟩ := bd h
                      have k35 := l_D_parentOf (d + 4) n e σ v1.2 x2 _ k35
                      refine go_call (kc := 50) (Mc := mt50) (v := some (pvI v34)) (w' := (true, n, e, σ)) (pc' := 121) (st' := [pvI v34]) [pvR 0 0 v1.2, pvI x2] [] (Or.inl rfl) dX10_move_118 rfl rm_10_137 mtE50 rfl rfl rfl (Nat.le_of_ble_eq_true rfl) (Or.inr ⟨_, _, v1.2, rfl, Or.inl rfl⟩) k35 rfl ?_
                      refine go_istore (L' := [some (pvR 10 0 0), some (pvI x1), some (pvI x2), some (pvI x3), some (pvI x4), some (pvR 0 0 v1.2), some (pvI v34)]) (pc' := 123) dX10_move_121 rfl (Nat.le_of_ble_eq_true rfl) rfl ?_
                      refine go_aload (pc' := 125) dX10_move_123 rfl rfl (Nat.le_of_ble_eq_true rfl) ?_
                      refine go_getR (k' := 5) (L0 := 0) (P' := (v1.2 + 1)) (pc' := 128) dX10_move_125 rfl rf_10_140 rfl rfl (by omega) ?_
                      refine go_iload_n (pc' := 129) dX10_move_128 rfl rfl ?_
                      refine go_iload_n (pc' := 130) dX10_move_129 rfl rfl ?_
                      refine go_iload (pc' := 132) dX10_move_130 rfl rfl ?_
                      obtain ⟨v36, k37, h⟩ := bd h
                      have k37 := l_MV_tell (d + 5) n e σ (v1.2 + 1) x2 x3 x4 _ k37
                      refine go_call (kc := 51) (Mc := mt51) (v := none) (w' := (true, n, e, v36)) (pc' := 135) (st' := []) [pvR 5 0 (v1.2 + 1), pvI x2, pvI x3, pvI x4] [] (Or.inl rfl) dX10_move_132 rfl rm_10_144 mtE51 rfl rfl rfl (Nat.le_of_ble_eq_true rfl) (Or.inr ⟨_, _, (v1.2 + 1), rfl, Or.inl rfl⟩) k37 rfl ?_
                      refine go_aload_n (pc' := 136) dX10_move_135 rfl rfl (Nat.le_of_ble_eq_true rfl) ?_
                      refine go_getR (k' := 7) (L0 := 0) (P' := 1) (pc' := 139) dX10_move_136 rfl rf_10_12 rfl rfl (by omega) ?_
                      obtain ⟨v38, k39, h⟩ := bd h
                      have k39 := l_S_weigh (d + 0) n e v36 _ k39
                      refine go_call (kc := 32) (Mc := mt32) (v := none) (w' := (true, n, e, v38)) (pc' := 142) (st' := []) [pvR 7 0 1] [] (Or.inl rfl) dX10_move_139 rfl rm_10_102 mtE32 rfl rfl rfl (Nat.le_of_ble_eq_true rfl) (Or.inr ⟨_, _, 1, rfl, Or.inl rfl⟩) k39 rfl ?_
                      refine go_aload_n (pc' := 143) dX10_move_142 rfl rfl (Nat.le_of_ble_eq_true rfl) ?_
                      refine go_getR (k' := 3) (L0 := 0) (P' := 108) (pc' := 146) dX10_move_143 rfl rf_10_35 rfl rfl (by omega) ?_
                      obtain ⟨v40, k41, h⟩ := bd h
                      have k41 := l_K_dropAll (d + 5) n e v38 _ k41
                      refine go_call (kc := 13) (Mc := mt13) (v := none) (w' := (true, n, e, v40)) (pc' := 149) (st' := []) [pvR 3 0 108] [] (Or.inl rfl) dX10_move_146 rfl rm_10_105 mtE13 rfl rfl rfl (Nat.le_of_ble_eq_true rfl) (Or.inr ⟨_, _, 108, rfl, Or.inl rfl⟩) k41 rfl ?_
                      refine go_iload (pc' := 151) dX10_move_149 rfl rfl ?_
                      cases h
                      exact go_iret dX10_move_151 rfl rfl
                    · rw [if_neg c33] at h
                      obtain ⟨g42, h⟩ := gd h
                      cases h
                      have k32 := l_C_need (d + 5) n e σ j26 _ k32
                      simp only [if_neg c33] at k32 ⊢
                      exact go_callX (kc := 26) (Mc := mt26) [pvI j26] [] (Or.inr rfl) dX10_move_112 rm_10_84 mtE26 rfl rfl rfl (Nat.le_of_ble_eq_true rfl) (Or.inl (by decide)) rfl c33 g42 k32 rfl
                  clear h
                  have h := k27
                  refine go_icmp_ge (t := 111) (pc' := 95) dX10_move_92 rfl rfl (fun c43 => ?_) (fun c43 => ?_)
                  · rw [if_pos (show x2 ≤ x3 from c43)] at h
                    refine go_iconst (pc' := 112) dX10_move_111 rfl (r32_c rfl) ?_
                    cases h
                    exact k27J
                  · rw [if_neg (show ¬ (x2 ≤ x3) from c43)] at h
                    refine go_aload_n (pc' := 96) dX10_move_95 rfl rfl (Nat.le_of_ble_eq_true rfl) ?_
                    refine go_getR (k' := 7) (L0 := 0) (P' := 1) (pc' := 99) dX10_move_96 rfl rf_10_12 rfl rfl (by omega) ?_
                    obtain ⟨v28, k29, h⟩ := bd h
                    have k29 := l_S_movesTold (d + 5) n e σ _ k29
                    refine go_call (kc := 49) (Mc := mt49) (v := some (pvI v28)) (w' := (true, n, e, σ)) (pc' := 102) (st' := [pvI v28]) [pvR 7 0 1] [] (Or.inl rfl) dX10_move_99 rfl rm_10_133 mtE49 rfl rfl rfl (Nat.le_of_ble_eq_true rfl) (Or.inr ⟨_, _, 1, rfl, Or.inl rfl⟩) k29 rfl ?_
                    refine go_bipush (pc' := 104) dX10_move_102 rfl (r32_c rfl) (by decide) ?_
                    refine go_icmp_ge (t := 111) (pc' := 107) dX10_move_104 rfl rfl (fun c30 => ?_) (fun c30 => ?_)
                    · rw [if_pos (show 10 ≤ v28 from c30)] at h
                      refine go_iconst (pc' := 112) dX10_move_111 rfl (r32_c rfl) ?_
                      cases h
                      exact k27J
                    · rw [if_neg (show ¬ (10 ≤ v28) from c30)] at h
                      refine go_iconst (pc' := 108) dX10_move_107 rfl (r32_c rfl) ?_
                      refine go_goto (t := 112) dX10_move_108 rfl ?_
                      cases h
                      exact k27J
                · rw [if_neg c25] at h
                  obtain ⟨g44, h⟩ := gd h
                  cases h
                  have k24 := l_C_need (d + 5) n e σ j15 _ k24
                  simp only [if_neg c25] at k24 ⊢
                  exact go_callX (kc := 26) (Mc := mt26) [pvI j15] [] (Or.inr rfl) dX10_move_87 rm_10_84 mtE26 rfl rfl rfl (Nat.le_of_ble_eq_true rfl) (Or.inl (by decide)) rfl c25 g44 k24 rfl
              clear h
              have h := k16
              refine go_if_eq (t := 86) (pc' := 58) dX10_move_55 rfl rfl (fun c45 => ?_) (fun c45 => ?_)
              · rw [if_pos (show v13 = 0 from c45)] at h
                refine go_iconst (pc' := 87) dX10_move_86 rfl (r32_c rfl) ?_
                cases h
                exact k16J
              · rw [if_neg (show ¬ (v13 = 0) from c45)] at h
                refine go_aload (pc' := 60) dX10_move_58 rfl rfl (Nat.le_of_ble_eq_true rfl) ?_
                refine go_iload_n (pc' := 61) dX10_move_60 rfl rfl ?_
                obtain ⟨v17, k18, h⟩ := bd h
                have k18 := l_D_isPlain (d + 4) n e σ v1.2 x3 _ k18
                refine go_call (kc := 25) (Mc := mt25) (v := some (pvI v17)) (w' := (true, n, e, σ)) (pc' := 64) (st' := [pvI v17]) [pvR 0 0 v1.2, pvI x3] [] (Or.inl rfl) dX10_move_61 rfl rm_10_74 mtE25 rfl rfl rfl (Nat.le_of_ble_eq_true rfl) (Or.inr ⟨_, _, v1.2, rfl, Or.inl rfl⟩) k18 rfl ?_
                refine go_if_eq (t := 86) (pc' := 67) dX10_move_64 rfl rfl (fun c22 => ?_) (fun c22 => ?_)
                · rw [if_pos (show v17 = 0 from c22)] at h
                  refine go_iconst (pc' := 87) dX10_move_86 rfl (r32_c rfl) ?_
                  cases h
                  exact k16J
                · rw [if_neg (show ¬ (v17 = 0) from c22)] at h
                  refine go_aload_n (pc' := 68) dX10_move_67 rfl rfl (Nat.le_of_ble_eq_true rfl) ?_
                  refine go_getR (k' := 7) (L0 := 0) (P' := 1) (pc' := 71) dX10_move_68 rfl rf_10_12 rfl rfl (by omega) ?_
                  refine go_getR (k' := 0) (L0 := 0) (P' := 2) (pc' := 74) dX10_move_71 rfl rf_10_127 rfl rfl (by omega) ?_
                  refine go_iload (pc' := 76) dX10_move_74 rfl rfl ?_
                  obtain ⟨v19, k20, h⟩ := bd h
                  have k20 := l_D_isPlain (d + 4) n e σ 2 x4 _ k20
                  refine go_call (kc := 25) (Mc := mt25) (v := some (pvI v19)) (w' := (true, n, e, σ)) (pc' := 79) (st' := [pvI v19]) [pvR 0 0 2, pvI x4] [] (Or.inl rfl) dX10_move_76 rfl rm_10_74 mtE25 rfl rfl rfl (Nat.le_of_ble_eq_true rfl) (Or.inr ⟨_, _, 2, rfl, Or.inl rfl⟩) k20 rfl ?_
                  refine go_if_eq (t := 86) (pc' := 82) dX10_move_79 rfl rfl (fun c21 => ?_) (fun c21 => ?_)
                  · rw [if_pos (show v19 = 0 from c21)] at h
                    refine go_iconst (pc' := 87) dX10_move_86 rfl (r32_c rfl) ?_
                    cases h
                    exact k16J
                  · rw [if_neg (show ¬ (v19 = 0) from c21)] at h
                    refine go_iconst (pc' := 83) dX10_move_82 rfl (r32_c rfl) ?_
                    refine go_goto (t := 87) dX10_move_83 rfl ?_
                    cases h
                    exact k16J
            · rw [if_neg (show ¬ (x2 ≠ 0) from c46)] at h
              cases h
              exact go_throw (x := 1) (ic := 112) (ln := 2) (tx := "it cannot be moved") dX10_move_39 rt_10_108 rfl rfl (Nat.le_of_ble_eq_true rfl) dX10_move_42 (Or.inl ⟨dX10_move_43, rfl⟩) dX10_move_45 dX10_move_48 (Or.inl ⟨rfl, rfl⟩) (by decide +kernel) rfl
        · rw [if_neg c12] at h
          obtain ⟨g48, h⟩ := gd h
          cases h
          have k11 := l_C_needMember (d + 4) n e σ 2 x4 _ k11
          simp only [if_neg c12] at k11 ⊢
          exact go_callX (kc := 22) (Mc := mt22) [pvR 0 0 2, pvI x4] [] (Or.inr rfl) dX10_move_28 rm_10_66 mtE22 rfl rfl rfl (Nat.le_of_ble_eq_true rfl) (Or.inl (by decide)) rfl c12 g48 k11 rfl
      · rw [if_neg c9] at h
        obtain ⟨g49, h⟩ := gd h
        cases h
        have k8 := l_C_needMember (d + 4) n e σ v1.2 x3 _ k8
        simp only [if_neg c9] at k8 ⊢
        exact go_callX (kc := 22) (Mc := mt22) [pvR 0 0 v1.2, pvI x3] [] (Or.inr rfl) dX10_move_16 rm_10_66 mtE22 rfl rfl rfl (Nat.le_of_ble_eq_true rfl) (Or.inl (by decide)) rfl c9 g49 k8 rfl
    · rw [if_neg c6] at h
      obtain ⟨g50, h⟩ := gd h
      cases h
      have k5 := l_C_needMember (d + 4) n e σ v1.2 x2 _ k5
      simp only [if_neg c6] at k5 ⊢
      exact go_callX (kc := 22) (Mc := mt22) [pvR 0 0 v1.2, pvI x2] [] (Or.inr rfl) dX10_move_10 rm_10_66 mtE22 rfl rfl rfl (Nat.le_of_ble_eq_true rfl) (Or.inl (by decide)) rfl c6 g50 k5 rfl
  · rw [if_neg c3] at h
    obtain ⟨g51, h⟩ := gd h
    cases h
    have k2 := l_C_existing (d + 4) n e σ x1 _ k2
    simp only [if_neg c3] at k2 ⊢
    exact go_callX (kc := 20) (Mc := mt20) [pvR 10 0 0, pvI x1] [] (Or.inl rfl) dX10_move_2 rm_10_62 mtE20 rfl rfl rfl (Nat.le_of_ble_eq_true rfl) (Or.inr ⟨_, _, 0, rfl, Or.inl rfl⟩) rfl c3 g51 k2 rfl

set_option maxRecDepth 10000 in
theorem l_L_move (d : Nat) (n e : Nat) (σ : Hp) (x2 : Int) (x3 : Int) (x4 : Int) (x5 : Int) (r : Int × Nat × Hp) (h : f_L_move σ e x2 x3 x4 x5 = some r) : Ev (d + 8) 47 [pvR 10 0 0, pvI x2, pvI x3, pvI x4, pvI x5, pvR 13 1 170] (true, n, e, σ) (0, some (pvI r.1), true, n, r.2.1, r.2.2) := by
  unfold f_L_move at h
  refine Ev.of mtE47 rfl rfl rfl rfl ?_
  show Go none (Ev (d + 7)) mt47 0 [some (pvR 10 0 0), some (pvI x2), some (pvI x3), some (pvI x4), some (pvI x5), some (pvR 13 1 170), none] [] (true, n, e, σ) (0, some (pvI r.1), true, n, r.2.1, r.2.2)
  refine go_aload (pc' := 2) dL_move_0 rfl rfl (Nat.le_of_ble_eq_true rfl) ?_
  refine go_iconst (pc' := 3) dL_move_2 rfl (r32_c rfl) ?_
  refine go_aload_n (pc' := 4) dL_move_3 rfl rfl (Nat.le_of_ble_eq_true rfl) ?_
  refine go_iload_n (pc' := 5) dL_move_4 rfl rfl ?_
  refine go_iload_n (pc' := 6) dL_move_5 rfl rfl ?_
  refine go_iload_n (pc' := 7) dL_move_6 rfl rfl ?_
  refine go_iload (pc' := 9) dL_move_7 rfl rfl ?_
  obtain ⟨v1, k2, h⟩ := bd h
  by_cases c3 : v1.1 = 0
  · rw [if_pos c3] at h
    have k2 := l_C_move (d + 0) n e σ x2 x3 x4 x5 _ k2
    rw [c3] at k2
    refine go_call (kc := 48) (Mc := mt48) (v := some (pvI v1.2.1)) (w' := (true, n, e, v1.2.2)) (pc' := 12) (st' := [pvI v1.2.1, pvI 0, pvR 13 1 170]) [pvR 10 0 0, pvI x2, pvI x3, pvI x4, pvI x5] [pvI 0, pvR 13 1 170] (Or.inl rfl) dL_move_9 rfl rm_12_23 mtE48 rfl rfl rfl (Nat.le_of_ble_eq_true rfl) (Or.inr ⟨_, _, 0, rfl, Or.inl rfl⟩) k2 rfl ?_
    refine go_i2l (pc' := 13) dL_move_12 rfl ?_
    obtain ⟨g4, h⟩ := gd h
    refine go_last (pc' := 14) dL_move_13 rfl g4 ?_
    refine go_goto (t := 25) dL_move_14 rfl ?_
    refine go_iconst (pc' := 26) dL_move_25 rfl (r32_c rfl) ?_
    cases h
    exact go_iret dL_move_26 rfl rfl
  · rw [if_neg c3] at h
    by_cases c5 : v1.1 = 1
    · rw [if_pos c5] at h
      have k2 := l_C_move (d + 0) n e σ x2 x3 x4 x5 _ k2
      rw [c5] at k2
      refine go_callH (x := 1) (kc := 48) (Mc := mt48) (h := 17) (i := 6) (ln := 2) (w' := (true, n, (e + 1), v1.2.2)) (pc' := 19) (L' := [some (pvR 10 0 0), some (pvI x2), some (pvI x3), some (pvI x4), some (pvI x5), some (pvR 13 1 170), none]) [pvR 10 0 0, pvI x2, pvI x3, pvI x4, pvI x5] [pvI 0, pvR 13 1 170] (Or.inl rfl) dL_move_9 rm_12_23 mtE48 rfl rfl rfl (Nat.le_of_ble_eq_true rfl) (Or.inr ⟨_, _, 0, rfl, Or.inl rfl⟩) (by decide +kernel) (by decide) (by decide) (Or.inl ⟨dL_move_17, rfl⟩) (Nat.le_of_ble_eq_true rfl) rfl rfl k2 ?_
      refine go_iconst (pc' := 20) dL_move_19 rfl (r32_c rfl) ?_
      cases h
      exact go_iret dL_move_20 rfl rfl
    · rw [if_neg c5] at h
      by_cases c6 : v1.1 = 3
      · rw [if_pos c6] at h
        have k2 := l_C_move (d + 0) n e σ x2 x3 x4 x5 _ k2
        rw [c6] at k2
        refine go_callH (x := 3) (kc := 48) (Mc := mt48) (h := 21) (i := 6) (ln := 2) (w' := (true, n, (e + 1), v1.2.2)) (pc' := 23) (L' := [some (pvR 10 0 0), some (pvI x2), some (pvI x3), some (pvI x4), some (pvI x5), some (pvR 13 1 170), none]) [pvR 10 0 0, pvI x2, pvI x3, pvI x4, pvI x5] [pvI 0, pvR 13 1 170] (Or.inl rfl) dL_move_9 rm_12_23 mtE48 rfl rfl rfl (Nat.le_of_ble_eq_true rfl) (Or.inr ⟨_, _, 0, rfl, Or.inl rfl⟩) (by decide +kernel) (by decide) (by decide) (Or.inl ⟨dL_move_21, rfl⟩) (Nat.le_of_ble_eq_true rfl) rfl rfl k2 ?_
        refine go_iconst (pc' := 24) dL_move_23 rfl (r32_c rfl) ?_
        cases h
        exact go_iret dL_move_24 rfl rfl
      · rw [if_neg c6] at h
        cases h

set_option maxRecDepth 10000 in
theorem l_D_kindOf (d : Nat) (n e : Nat) (σ : Hp) (p : Nat) (x1 : Int) (r : Int) (h : f_D_kindOf σ p x1 = some r) : Ev (d + 2) 54 [pvR 0 0 p, pvI x1] (true, n, e, σ) (0, some (pvI r), true, n, e, σ) := by
  unfold f_D_kindOf at h
  refine Ev.of mtE54 rfl rfl rfl rfl ?_
  show Go none (Ev (d + 1)) mt54 0 [some (pvR 0 0 p), some (pvI x1)] [] (true, n, e, σ) (0, some (pvI r), true, n, e, σ)
  refine go_aload_n (pc' := 1) dX0_kindOf_0 rfl rfl (Nat.le_of_ble_eq_true rfl) ?_
  refine go_iload_n (pc' := 2) dX0_kindOf_1 rfl rfl ?_
  obtain ⟨v1, k2, h⟩ := bd h
  have k2 := l_D_has (d + 0) n e σ p x1 _ k2
  refine go_call (kc := 23) (Mc := mt23) (v := some (pvI v1)) (w' := (true, n, e, σ)) (pc' := 5) (st' := [pvI v1]) [pvR 0 0 p, pvI x1] [] (Or.inl rfl) dX0_kindOf_2 rfl rm_0_65 mtE23 rfl rfl rfl (Nat.le_of_ble_eq_true rfl) (Or.inr ⟨_, _, p, rfl, Or.inl rfl⟩) k2 rfl ?_
  obtain ⟨j3, k4, h⟩ := bd h
  have k4J : Go none (Ev (d + 1)) mt54 18 [some (pvR 0 0 p), some (pvI x1)] [pvI j3] (true, n, e, σ) (0, some (pvI r), true, n, e, σ) := by
    cases h
    exact go_iret dX0_kindOf_18 rfl rfl
  clear h
  have h := k4
  refine go_if_eq (t := 17) (pc' := 8) dX0_kindOf_5 rfl rfl (fun c6 => ?_) (fun c6 => ?_)
  · rw [if_pos (show v1 = 0 from c6)] at h
    refine go_iconst (pc' := 18) dX0_kindOf_17 rfl (r32_c rfl) ?_
    cases h
    exact k4J
  · rw [if_neg (show ¬ (v1 = 0) from c6)] at h
    refine go_aload_n (pc' := 9) dX0_kindOf_8 rfl rfl (Nat.le_of_ble_eq_true rfl) ?_
    refine go_getR (k' := 12) (L0 := 12) (P' := (p + 5)) (pc' := 12) dX0_kindOf_9 rfl rf_0_22 rfl rfl (by omega) ?_
    refine go_iload_n (pc' := 13) dX0_kindOf_12 rfl rfl ?_
    obtain ⟨g5, h⟩ := gd h
    refine go_iald (pc' := 14) dX0_kindOf_13 rfl g5 ?_
    refine go_goto (t := 18) dX0_kindOf_14 rfl ?_
    cases h
    exact k4J

set_option maxRecDepth 10000 in
theorem l_C_memberAt (d : Nat) (n e : Nat) (σ : Hp) (x1 : Int) (x2 : Int) (x3 : Int) (r : Nat × Int) (h : f_C_memberAt σ x1 x2 x3 = some r) : Ev (d + 3) 53 [pvR 10 0 0, pvI x1, pvI x2, pvI x3] (true, n, e, σ) (r.1, if r.1 = 0 then some (pvI r.2) else none, true, n, e + if r.1 = 0 then 0 else 1, σ) := by
  unfold f_C_memberAt at h
  refine Ev.of mtE53 rfl rfl rfl rfl ?_
  show Go none (Ev (d + 2)) mt53 0 [some (pvR 10 0 0), some (pvI x1), some (pvI x2), some (pvI x3), none] [] (true, n, e, σ) (r.1, if r.1 = 0 then some (pvI r.2) else none, true, n, e + if r.1 = 0 then 0 else 1, σ)
  refine go_aload_n (pc' := 1) dX10_memberAt_0 rfl rfl (Nat.le_of_ble_eq_true rfl) ?_
  refine go_iload_n (pc' := 2) dX10_memberAt_1 rfl rfl ?_
  obtain ⟨v1, k2, h⟩ := bd h
  by_cases c3 : v1.1 = 0
  · rw [if_pos c3] at h
    have k2 := l_C_existing (d + 0) n e σ x1 _ k2
    rw [c3] at k2
    refine go_call (kc := 20) (Mc := mt20) (v := some (pvR 0 0 v1.2)) (w' := (true, n, e, σ)) (pc' := 5) (st' := [pvR 0 0 v1.2]) [pvR 10 0 0, pvI x1] [] (Or.inl rfl) dX10_memberAt_2 rfl rm_10_62 mtE20 rfl rfl rfl (Nat.le_of_ble_eq_true rfl) (Or.inr ⟨_, _, 0, rfl, Or.inl rfl⟩) k2 rfl ?_
    refine go_astore (L' := [some (pvR 10 0 0), some (pvI x1), some (pvI x2), some (pvI x3), some (pvR 0 0 v1.2)]) (pc' := 7) dX10_memberAt_5 rfl (Nat.le_of_ble_eq_true rfl) (Nat.le_of_ble_eq_true rfl) rfl ?_
    refine go_aload (pc' := 9) dX10_memberAt_7 rfl rfl (Nat.le_of_ble_eq_true rfl) ?_
    refine go_iload_n (pc' := 10) dX10_memberAt_9 rfl rfl ?_
    obtain ⟨v4, k5, h⟩ := bd h
    by_cases c6 : v4 = 0
    · rw [if_pos c6] at h
      have k5 := l_C_needMember (d + 0) n e σ v1.2 x2 _ k5
      rw [c6] at k5
      refine go_call (kc := 22) (Mc := mt22) (v := none) (w' := (true, n, e, σ)) (pc' := 13) (st' := []) [pvR 0 0 v1.2, pvI x2] [] (Or.inr (Or.inl rfl)) dX10_memberAt_10 rfl rm_10_66 mtE22 rfl rfl rfl (Nat.le_of_ble_eq_true rfl) (Or.inl (by decide)) k5 rfl ?_
      refine go_iload_n (pc' := 14) dX10_memberAt_13 rfl rfl ?_
      refine go_iconst (pc' := 15) dX10_memberAt_14 rfl (r32_c rfl) ?_
      refine go_iconst (pc' := 16) dX10_memberAt_15 rfl (r32_c rfl) ?_
      obtain ⟨v7, k8, h⟩ := bd h
      by_cases c9 : v7 = 0
      · rw [if_pos c9] at h
        have k8 := l_C_needRange (d + 1) n e σ x3 0 4 _ k8
        rw [c9] at k8
        refine go_call (kc := 24) (Mc := mt24) (v := none) (w' := (true, n, e, σ)) (pc' := 19) (st' := []) [pvI x3, pvI 0, pvI 4] [] (Or.inr (Or.inl rfl)) dX10_memberAt_16 rfl rm_10_70 mtE24 rfl rfl rfl (Nat.le_of_ble_eq_true rfl) (Or.inl (by decide)) k8 rfl ?_
        refine go_iload_n (pc' := 20) dX10_memberAt_19 rfl rfl ?_
        by_cases c12 : x3 = 0
        · rw [if_pos c12] at h
          refine go_table (t := 52) dX10_memberAt_20 (Or.inr ⟨by omega, by omega, by rw [c12]; rfl⟩) rfl ?_
          refine go_aload (pc' := 54) dX10_memberAt_52 rfl rfl (Nat.le_of_ble_eq_true rfl) ?_
          refine go_iload_n (pc' := 55) dX10_memberAt_54 rfl rfl ?_
          obtain ⟨v10, k11, h⟩ := bd h
          have k11 := l_D_kindOf (d + 0) n e σ v1.2 x2 _ k11
          refine go_call (kc := 54) (Mc := mt54) (v := some (pvI v10)) (w' := (true, n, e, σ)) (pc' := 58) (st' := [pvI v10]) [pvR 0 0 v1.2, pvI x2] [] (Or.inl rfl) dX10_memberAt_55 rfl rm_10_153 mtE54 rfl rfl rfl (Nat.le_of_ble_eq_true rfl) (Or.inr ⟨_, _, v1.2, rfl, Or.inl rfl⟩) k11 rfl ?_
          cases h
          exact go_iret dX10_memberAt_58 rfl rfl
        · rw [if_neg c12] at h
          by_cases c15 : x3 = 1
          · rw [if_pos c15] at h
            refine go_table (t := 59) dX10_memberAt_20 (Or.inr ⟨by omega, by omega, by rw [c15]; rfl⟩) rfl ?_
            refine go_aload (pc' := 61) dX10_memberAt_59 rfl rfl (Nat.le_of_ble_eq_true rfl) ?_
            refine go_iload_n (pc' := 62) dX10_memberAt_61 rfl rfl ?_
            obtain ⟨v13, k14, h⟩ := bd h
            have k14 := l_D_parentOf (d + 0) n e σ v1.2 x2 _ k14
            refine go_call (kc := 50) (Mc := mt50) (v := some (pvI v13)) (w' := (true, n, e, σ)) (pc' := 65) (st' := [pvI v13]) [pvR 0 0 v1.2, pvI x2] [] (Or.inl rfl) dX10_memberAt_62 rfl rm_10_137 mtE50 rfl rfl rfl (Nat.le_of_ble_eq_true rfl) (Or.inr ⟨_, _, v1.2, rfl, Or.inl rfl⟩) k14 rfl ?_
            cases h
            exact go_iret dX10_memberAt_65 rfl rfl
          · rw [if_neg c15] at h
            by_cases c18 : x3 = 2
            · rw [if_pos c18] at h
              refine go_table (t := 66) dX10_memberAt_20 (Or.inr ⟨by omega, by omega, by rw [c18]; rfl⟩) rfl ?_
              refine go_aload (pc' := 68) dX10_memberAt_66 rfl rfl (Nat.le_of_ble_eq_true rfl) ?_
              refine go_iload_n (pc' := 69) dX10_memberAt_68 rfl rfl ?_
              obtain ⟨v16, k17, h⟩ := bd h
              have k17 := l_D_depthOf (d + 0) n e σ v1.2 x2 _ k17
              refine go_call (kc := 31) (Mc := mt31) (v := some (pvI v16)) (w' := (true, n, e, σ)) (pc' := 72) (st' := [pvI v16]) [pvR 0 0 v1.2, pvI x2] [] (Or.inl rfl) dX10_memberAt_69 rfl rm_10_156 mtE31 rfl rfl rfl (Nat.le_of_ble_eq_true rfl) (Or.inr ⟨_, _, v1.2, rfl, Or.inl rfl⟩) k17 rfl ?_
              cases h
              exact go_iret dX10_memberAt_72 rfl rfl
            · rw [if_neg c18] at h
              by_cases c24 : x3 = 3
              · rw [if_pos c24] at h
                refine go_table (t := 73) dX10_memberAt_20 (Or.inr ⟨by omega, by omega, by rw [c24]; rfl⟩) rfl ?_
                refine go_iload_n (pc' := 74) dX10_memberAt_73 rfl rfl ?_
                obtain ⟨j19, k20, h⟩ := bd h
                have k20J : Go none (Ev (d + 2)) mt53 92 [some (pvR 10 0 0), some (pvI x1), some (pvI x2), some (pvI x3), some (pvR 0 0 v1.2)] [pvI j19] (true, n, e, σ) (r.1, if r.1 = 0 then some (pvI r.2) else none, true, n, e + if r.1 = 0 then 0 else 1, σ) := by
                  cases h
                  exact go_iret dX10_memberAt_92 rfl rfl
                clear h
                have h := k20
                refine go_if_ne (t := 91) (pc' := 77) dX10_memberAt_74 rfl rfl (fun c23 => ?_) (fun c23 => ?_)
                · rw [if_pos (show x1 ≠ 0 from c23)] at h
                  refine go_iconst (pc' := 92) dX10_memberAt_91 rfl (r32_c rfl) ?_
                  cases h
                  exact k20J
                · rw [if_neg (show ¬ (x1 ≠ 0) from c23)] at h
                  refine go_aload_n (pc' := 78) dX10_memberAt_77 rfl rfl (Nat.le_of_ble_eq_true rfl) ?_
                  refine go_getR (k' := 7) (L0 := 0) (P' := 1) (pc' := 81) dX10_memberAt_78 rfl rf_10_12 rfl rfl (by omega) ?_
                  refine go_getR (k' := 9) (L0 := 0) (P' := 92) (pc' := 84) dX10_memberAt_81 rfl rf_10_92 rfl rfl (by omega) ?_
                  refine go_iload_n (pc' := 85) dX10_memberAt_84 rfl rfl ?_
                  obtain ⟨v21, k22, h⟩ := bd h
                  have k22 := l_TO_placeOf (d + 1) n e σ x2 _ k22
                  refine go_call (kc := 30) (Mc := mt30) (v := some (pvI v21)) (w' := (true, n, e, σ)) (pc' := 88) (st' := [pvI v21]) [pvR 9 0 92, pvI x2] [] (Or.inl rfl) dX10_memberAt_85 rfl rm_10_159 mtE30 rfl rfl rfl (Nat.le_of_ble_eq_true rfl) (Or.inr ⟨_, _, 92, rfl, Or.inl rfl⟩) k22 rfl ?_
                  refine go_goto (t := 92) dX10_memberAt_88 rfl ?_
                  cases h
                  exact k20J
              · rw [if_neg c24] at h
                refine go_table (t := 93) dX10_memberAt_20 (Or.inl ⟨by omega, rfl⟩) rfl ?_
                refine go_aload (pc' := 95) dX10_memberAt_93 rfl rfl (Nat.le_of_ble_eq_true rfl) ?_
                refine go_iload_n (pc' := 96) dX10_memberAt_95 rfl rfl ?_
                obtain ⟨v25, k26, h⟩ := bd h
                have k26 := l_D_isSeen (d + 1) n e σ v1.2 x2 _ k26
                refine go_call (kc := 36) (Mc := mt36) (v := some (pvI v25)) (w' := (true, n, e, σ)) (pc' := 99) (st' := [pvI v25]) [pvR 0 0 v1.2, pvI x2] [] (Or.inl rfl) dX10_memberAt_96 rfl rm_10_162 mtE36 rfl rfl rfl (Nat.le_of_ble_eq_true rfl) (Or.inr ⟨_, _, v1.2, rfl, Or.inl rfl⟩) k26 rfl ?_
                obtain ⟨j27, k28, h⟩ := bd h
                have k28J : Go none (Ev (d + 2)) mt53 107 [some (pvR 10 0 0), some (pvI x1), some (pvI x2), some (pvI x3), some (pvR 0 0 v1.2)] [pvI j27] (true, n, e, σ) (r.1, if r.1 = 0 then some (pvI r.2) else none, true, n, e + if r.1 = 0 then 0 else 1, σ) := by
                  cases h
                  exact go_iret dX10_memberAt_107 rfl rfl
                clear h
                have h := k28
                refine go_if_eq (t := 106) (pc' := 102) dX10_memberAt_99 rfl rfl (fun c29 => ?_) (fun c29 => ?_)
                · rw [if_pos (show v25 = 0 from c29)] at h
                  refine go_iconst (pc' := 107) dX10_memberAt_106 rfl (r32_c rfl) ?_
                  cases h
                  exact k28J
                · rw [if_neg (show ¬ (v25 = 0) from c29)] at h
                  refine go_iconst (pc' := 103) dX10_memberAt_102 rfl (r32_c rfl) ?_
                  refine go_goto (t := 107) dX10_memberAt_103 rfl ?_
                  cases h
                  exact k28J
      · rw [if_neg c9] at h
        obtain ⟨g30, h⟩ := gd h
        cases h
        have k8 := l_C_needRange (d + 1) n e σ x3 0 4 _ k8
        simp only [if_neg c9] at k8 ⊢
        exact go_callX (kc := 24) (Mc := mt24) [pvI x3, pvI 0, pvI 4] [] (Or.inr rfl) dX10_memberAt_16 rm_10_70 mtE24 rfl rfl rfl (Nat.le_of_ble_eq_true rfl) (Or.inl (by decide)) rfl c9 g30 k8 rfl
    · rw [if_neg c6] at h
      obtain ⟨g31, h⟩ := gd h
      cases h
      have k5 := l_C_needMember (d + 0) n e σ v1.2 x2 _ k5
      simp only [if_neg c6] at k5 ⊢
      exact go_callX (kc := 22) (Mc := mt22) [pvR 0 0 v1.2, pvI x2] [] (Or.inr rfl) dX10_memberAt_10 rm_10_66 mtE22 rfl rfl rfl (Nat.le_of_ble_eq_true rfl) (Or.inl (by decide)) rfl c6 g31 k5 rfl
  · rw [if_neg c3] at h
    obtain ⟨g32, h⟩ := gd h
    cases h
    have k2 := l_C_existing (d + 0) n e σ x1 _ k2
    simp only [if_neg c3] at k2 ⊢
    exact go_callX (kc := 20) (Mc := mt20) [pvR 10 0 0, pvI x1] [] (Or.inl rfl) dX10_memberAt_2 rm_10_62 mtE20 rfl rfl rfl (Nat.le_of_ble_eq_true rfl) (Or.inr ⟨_, _, 0, rfl, Or.inl rfl⟩) rfl c3 g32 k2 rfl

set_option maxRecDepth 10000 in
theorem l_L_memberAt (d : Nat) (n e : Nat) (σ : Hp) (x2 : Int) (x3 : Int) (x4 : Int) (r : Int × Nat × Hp) (h : f_L_memberAt σ e x2 x3 x4 = some r) : Ev (d + 4) 52 [pvR 10 0 0, pvI x2, pvI x3, pvI x4, pvR 13 1 170] (true, n, e, σ) (0, some (pvI r.1), true, n, r.2.1, r.2.2) := by
  unfold f_L_memberAt at h
  refine Ev.of mtE52 rfl rfl rfl rfl ?_
  show Go none (Ev (d + 3)) mt52 0 [some (pvR 10 0 0), some (pvI x2), some (pvI x3), some (pvI x4), some (pvR 13 1 170), none] [] (true, n, e, σ) (0, some (pvI r.1), true, n, r.2.1, r.2.2)
  refine go_aload (pc' := 2) dL_memberAt_0 rfl rfl (Nat.le_of_ble_eq_true rfl) ?_
  refine go_iconst (pc' := 3) dL_memberAt_2 rfl (r32_c rfl) ?_
  refine go_aload_n (pc' := 4) dL_memberAt_3 rfl rfl (Nat.le_of_ble_eq_true rfl) ?_
  refine go_iload_n (pc' := 5) dL_memberAt_4 rfl rfl ?_
  refine go_iload_n (pc' := 6) dL_memberAt_5 rfl rfl ?_
  refine go_iload_n (pc' := 7) dL_memberAt_6 rfl rfl ?_
  obtain ⟨v1, k2, h⟩ := bd h
  by_cases c3 : v1.1 = 0
  · rw [if_pos c3] at h
    have k2 := l_C_memberAt (d + 0) n e σ x2 x3 x4 _ k2
    rw [c3] at k2
    refine go_call (kc := 53) (Mc := mt53) (v := some (pvI v1.2)) (w' := (true, n, e, σ)) (pc' := 10) (st' := [pvI v1.2, pvI 0, pvR 13 1 170]) [pvR 10 0 0, pvI x2, pvI x3, pvI x4] [pvI 0, pvR 13 1 170] (Or.inl rfl) dL_memberAt_7 rfl rm_12_27 mtE53 rfl rfl rfl (Nat.le_of_ble_eq_true rfl) (Or.inr ⟨_, _, 0, rfl, Or.inl rfl⟩) k2 rfl ?_
    refine go_i2l (pc' := 11) dL_memberAt_10 rfl ?_
    obtain ⟨g4, h⟩ := gd h
    refine go_last (pc' := 12) dL_memberAt_11 rfl g4 ?_
    refine go_goto (t := 23) dL_memberAt_12 rfl ?_
    refine go_iconst (pc' := 24) dL_memberAt_23 rfl (r32_c rfl) ?_
    cases h
    exact go_iret dL_memberAt_24 rfl rfl
  · rw [if_neg c3] at h
    by_cases c5 : v1.1 = 1
    · rw [if_pos c5] at h
      have k2 := l_C_memberAt (d + 0) n e σ x2 x3 x4 _ k2
      rw [c5] at k2
      refine go_callH (x := 1) (kc := 53) (Mc := mt53) (h := 15) (i := 5) (ln := 2) (w' := (true, n, (e + 1), σ)) (pc' := 17) (L' := [some (pvR 10 0 0), some (pvI x2), some (pvI x3), some (pvI x4), some (pvR 13 1 170), none]) [pvR 10 0 0, pvI x2, pvI x3, pvI x4] [pvI 0, pvR 13 1 170] (Or.inl rfl) dL_memberAt_7 rm_12_27 mtE53 rfl rfl rfl (Nat.le_of_ble_eq_true rfl) (Or.inr ⟨_, _, 0, rfl, Or.inl rfl⟩) (by decide +kernel) (by decide) (by decide) (Or.inl ⟨dL_memberAt_15, rfl⟩) (Nat.le_of_ble_eq_true rfl) rfl rfl k2 ?_
      refine go_iconst (pc' := 18) dL_memberAt_17 rfl (r32_c rfl) ?_
      cases h
      exact go_iret dL_memberAt_18 rfl rfl
    · rw [if_neg c5] at h
      by_cases c6 : v1.1 = 2
      · rw [if_pos c6] at h
        have k2 := l_C_memberAt (d + 0) n e σ x2 x3 x4 _ k2
        rw [c6] at k2
        refine go_callH (x := 2) (kc := 53) (Mc := mt53) (h := 19) (i := 5) (ln := 2) (w' := (true, n, (e + 1), σ)) (pc' := 21) (L' := [some (pvR 10 0 0), some (pvI x2), some (pvI x3), some (pvI x4), some (pvR 13 1 170), none]) [pvR 10 0 0, pvI x2, pvI x3, pvI x4] [pvI 0, pvR 13 1 170] (Or.inl rfl) dL_memberAt_7 rm_12_27 mtE53 rfl rfl rfl (Nat.le_of_ble_eq_true rfl) (Or.inr ⟨_, _, 0, rfl, Or.inl rfl⟩) (by decide +kernel) (by decide) (by decide) (Or.inl ⟨dL_memberAt_19, rfl⟩) (Nat.le_of_ble_eq_true rfl) rfl rfl k2 ?_
        refine go_iconst (pc' := 22) dL_memberAt_21 rfl (r32_c rfl) ?_
        cases h
        exact go_iret dL_memberAt_22 rfl rfl
      · rw [if_neg c6] at h
        cases h

set_option maxRecDepth 10000 in
theorem l_F_hasRoomFor (d : Nat) (n e : Nat) (σ : Hp) (x0 : Int) (x1 : Int) (r : Int) (h : f_F_hasRoomFor σ x0 x1 = some r) : Ev (d + 1) 57 [pvF x0, pvI x1] (true, n, e, σ) (0, some (pvI r), true, n, e, σ) := by
  unfold f_F_hasRoomFor at h
  refine Ev.of mtE57 rfl rfl rfl rfl ?_
  show Go none (Ev (d + 0)) mt57 0 [some (pvF x0), some (pvI x1)] [] (true, n, e, σ) (0, some (pvI r), true, n, e, σ)
  refine go_aload_n (pc' := 1) dX2_hasRoomFor_0 rfl rfl (Nat.le_of_ble_eq_true rfl) ?_
  obtain ⟨g1, h⟩ := gd h
  refine go_getIF (pc' := 4) dX2_hasRoomFor_1 rfl rf_2_21 rfl g1 ?_
  refine go_bipush (pc' := 6) dX2_hasRoomFor_4 rfl (r32_c rfl) (by decide) ?_
  obtain ⟨j2, k3, h⟩ := bd h
  have k3J : Go none (Ev (d + 0)) mt57 27 [some (pvF x0), some (pvI x1)] [pvI j2] (true, n, e, σ) (0, some (pvI r), true, n, e, σ) := by
    obtain ⟨g7, h⟩ := gd h
    cases h
    exact go_zret dX2_hasRoomFor_27 rfl g7 rfl
  clear h
  have h := k3
  refine go_icmp_ge (t := 26) (pc' := 9) dX2_hasRoomFor_6 rfl rfl (fun c8 => ?_) (fun c8 => ?_)
  · rw [if_pos (show 10 ≤ (σ (Int.toNat x0) 0) from c8)] at h
    refine go_iconst (pc' := 27) dX2_hasRoomFor_26 rfl (r32_c rfl) ?_
    cases h
    exact k3J
  · rw [if_neg (show ¬ (10 ≤ (σ (Int.toNat x0) 0)) from c8)] at h
    refine go_iload_n (pc' := 10) dX2_hasRoomFor_9 rfl rfl ?_
    refine go_iconst (pc' := 11) dX2_hasRoomFor_10 rfl (r32_c rfl) ?_
    refine go_icmp_le (t := 22) (pc' := 14) dX2_hasRoomFor_11 rfl rfl (fun c6 => ?_) (fun c6 => ?_)
    · rw [if_pos (show x1 ≤ 2 from c6)] at h
      refine go_iconst (pc' := 23) dX2_hasRoomFor_22 rfl (r32_c rfl) ?_
      refine go_goto (t := 27) dX2_hasRoomFor_23 rfl ?_
      cases h
      exact k3J
    · rw [if_neg (show ¬ (x1 ≤ 2) from c6)] at h
      refine go_aload_n (pc' := 15) dX2_hasRoomFor_14 rfl rfl (Nat.le_of_ble_eq_true rfl) ?_
      obtain ⟨g4, h⟩ := gd h
      refine go_getIF (pc' := 18) dX2_hasRoomFor_15 rfl rf_2_25 rfl g4 ?_
      refine go_iconst (pc' := 19) dX2_hasRoomFor_18 rfl (r32_c rfl) ?_
      refine go_icmp_lt (t := 26) (pc' := 22) dX2_hasRoomFor_19 rfl rfl (fun c5 => ?_) (fun c5 => ?_)
      · rw [if_pos (show (σ (Int.toNat x0) 1) < 2 from c5)] at h
        refine go_iconst (pc' := 27) dX2_hasRoomFor_26 rfl (r32_c rfl) ?_
        cases h
        exact k3J
      · rw [if_neg (show ¬ ((σ (Int.toNat x0) 1) < 2) from c5)] at h
        refine go_iconst (pc' := 23) dX2_hasRoomFor_22 rfl (r32_c rfl) ?_
        refine go_goto (t := 27) dX2_hasRoomFor_23 rfl ?_
        cases h
        exact k3J

set_option maxRecDepth 10000 in
theorem l_F_put (d : Nat) (n e : Nat) (σ : Hp) (x0 : Int) (x1 : Int) (x2 : Int) (x3 : Int) (r : Hp) (h : f_F_put σ x0 x1 x2 x3 = some r) : Ev (d + 1) 58 [pvF x0, pvI x1, pvI x2, pvI x3] (true, n, e, σ) (0, none, true, n, e, r) := by
  unfold f_F_put at h
  refine Ev.of mtE58 rfl rfl rfl rfl ?_
  show Go none (Ev (d + 0)) mt58 0 [some (pvF x0), some (pvI x1), some (pvI x2), some (pvI x3)] [] (true, n, e, σ) (0, none, true, n, e, r)
  refine go_aload_n (pc' := 1) dX2_put_0 rfl rfl (Nat.le_of_ble_eq_true rfl) ?_
  obtain ⟨g1, h⟩ := gd h
  refine go_getIF (pc' := 4) dX2_put_1 rfl rf_2_21 rfl g1 ?_
  refine go_bipush (pc' := 6) dX2_put_4 rfl (r32_c rfl) (by decide) ?_
  obtain ⟨j2, k3, h⟩ := bd h
  have k3J : Go none (Ev (d + 0)) mt58 68 [some (pvF x0), some (pvI x1), some (pvI x2), some (pvI x3)] [] (true, n, e, j2) (0, none, true, n, e, r) := by
    cases h
    exact go_vret dX2_put_68 rfl rfl
  clear h
  have h := k3
  refine go_icmp_ge (t := 68) (pc' := 9) dX2_put_6 rfl rfl (fun c22 => ?_) (fun c22 => ?_)
  · rw [if_pos (show 10 ≤ (σ (Int.toNat x0) 0) from c22)] at h
    cases h
    exact k3J
  · rw [if_neg (show ¬ (10 ≤ (σ (Int.toNat x0) 0)) from c22)] at h
    refine go_aload_n (pc' := 10) dX2_put_9 rfl rfl (Nat.le_of_ble_eq_true rfl) ?_
    obtain ⟨g4, h⟩ := gd h
    refine go_getRF (k' := 12) (L0 := 10) (P' := (Int.toNat x0 + 1)) (pc' := 13) dX2_put_10 rfl rf_2_9 rfl rfl g4 (by omega) ?_
    refine go_aload_n (pc' := 14) dX2_put_13 rfl rfl (Nat.le_of_ble_eq_true rfl) ?_
    obtain ⟨g5, h⟩ := gd h
    refine go_getIF (pc' := 17) dX2_put_14 rfl rf_2_21 rfl g5 ?_
    refine go_iload_n (pc' := 18) dX2_put_17 rfl rfl ?_
    obtain ⟨g6, h⟩ := gd h
    refine go_iast (pc' := 19) dX2_put_18 rfl g6 ?_
    refine go_aload_n (pc' := 20) dX2_put_19 rfl rfl (Nat.le_of_ble_eq_true rfl) ?_
    obtain ⟨g7, h⟩ := gd h
    refine go_getRF (k' := 12) (L0 := 10) (P' := (Int.toNat x0 + 2)) (pc' := 23) dX2_put_20 rfl rf_2_15 rfl rfl g7 (by omega) ?_
    refine go_aload_n (pc' := 24) dX2_put_23 rfl rfl (Nat.le_of_ble_eq_true rfl) ?_
    obtain ⟨g8, h⟩ := gd h
    refine go_getIF (pc' := 27) dX2_put_24 rfl rf_2_21 rfl g8 ?_
    refine go_iload_n (pc' := 28) dX2_put_27 rfl rfl ?_
    obtain ⟨g9, h⟩ := gd h
    refine go_iast (pc' := 29) dX2_put_28 rfl g9 ?_
    refine go_aload_n (pc' := 30) dX2_put_29 rfl rfl (Nat.le_of_ble_eq_true rfl) ?_
    obtain ⟨g10, h⟩ := gd h
    refine go_getRF (k' := 12) (L0 := 10) (P' := (Int.toNat x0 + 3)) (pc' := 33) dX2_put_30 rfl rf_2_18 rfl rfl g10 (by omega) ?_
    refine go_aload_n (pc' := 34) dX2_put_33 rfl rfl (Nat.le_of_ble_eq_true rfl) ?_
    obtain ⟨g11, h⟩ := gd h
    refine go_getIF (pc' := 37) dX2_put_34 rfl rf_2_21 rfl g11 ?_
    refine go_iload_n (pc' := 38) dX2_put_37 rfl rfl ?_
    obtain ⟨g12, h⟩ := gd h
    refine go_iast (pc' := 39) dX2_put_38 rfl g12 ?_
    refine go_aload_n (pc' := 40) dX2_put_39 rfl rfl (Nat.le_of_ble_eq_true rfl) ?_
    refine go_dup (pc' := 41) dX2_put_40 rfl (Nat.ne_of_beq_eq_false rfl) ?_
    obtain ⟨g13, h⟩ := gd h
    refine go_getIF (pc' := 44) dX2_put_41 rfl rf_2_21 rfl g13 ?_
    refine go_iconst (pc' := 45) dX2_put_44 rfl (r32_c rfl) ?_
    obtain ⟨g14, h⟩ := gd h
    refine go_iadd (pc' := 46) dX2_put_45 rfl g14 ?_
    obtain ⟨g15, h⟩ := gd h
    refine go_putIF (pc' := 49) dX2_put_46 rfl rf_2_21 rfl g15 ?_
    refine go_aload_n (pc' := 50) dX2_put_49 rfl rfl (Nat.le_of_ble_eq_true rfl) ?_
    refine go_dup (pc' := 51) dX2_put_50 rfl (Nat.ne_of_beq_eq_false rfl) ?_
    obtain ⟨g16, h⟩ := gd h
    refine go_getIF (pc' := 54) dX2_put_51 rfl rf_2_25 rfl g16 ?_
    refine go_iload_n (pc' := 55) dX2_put_54 rfl rfl ?_
    refine go_iconst (pc' := 56) dX2_put_55 rfl (r32_c rfl) ?_
    obtain ⟨j17, k18, h⟩ := bd h
    have k18J : Go none (Ev (d + 0)) mt58 64 [some (pvF x0), some (pvI x1), some (pvI x2), some (pvI x3)] [pvI j17, pvI ((hset (hset (hset (hset σ (Int.toNat x0 + 1) (σ (Int.toNat x0) 0) x1) (Int.toNat x0 + 2) ((hset σ (Int.toNat x0 + 1) (σ (Int.toNat x0) 0) x1) (Int.toNat x0) 0) x2) (Int.toNat x0 + 3) ((hset (hset σ (Int.toNat x0 + 1) (σ (Int.toNat x0) 0) x1) (Int.toNat x0 + 2) ((hset σ (Int.toNat x0 + 1) (σ (Int.toNat x0) 0) x1) (Int.toNat x0) 0) x2) (Int.toNat x0) 0) x3) (Int.toNat x0) 0 (((hset (hset (hset σ (Int.toNat x0 + 1) (σ (Int.toNat x0) 0) x1) (Int.toNat x0 + 2) ((hset σ (Int.toNat x0 + 1) (σ (Int.toNat x0) 0) x1) (Int.toNat x0) 0) x2) (Int.toNat x0 + 3) ((hset (hset σ (Int.toNat x0 + 1) (σ (Int.toNat x0) 0) x1) (Int.toNat x0 + 2) ((hset σ (Int.toNat x0 + 1) (σ (Int.toNat x0) 0) x1) (Int.toNat x0) 0) x2) (Int.toNat x0) 0) x3) (Int.toNat x0) 0) + 1)) (Int.toNat x0) 1), pvF x0] (true, n, e, (hset (hset (hset (hset σ (Int.toNat x0 + 1) (σ (Int.toNat x0) 0) x1) (Int.toNat x0 + 2) ((hset σ (Int.toNat x0 + 1) (σ (Int.toNat x0) 0) x1) (Int.toNat x0) 0) x2) (Int.toNat x0 + 3) ((hset (hset σ (Int.toNat x0 + 1) (σ (Int.toNat x0) 0) x1) (Int.toNat x0 + 2) ((hset σ (Int.toNat x0 + 1) (σ (Int.toNat x0) 0) x1) (Int.toNat x0) 0) x2) (Int.toNat x0) 0) x3) (Int.toNat x0) 0 (((hset (hset (hset σ (Int.toNat x0 + 1) (σ (Int.toNat x0) 0) x1) (Int.toNat x0 + 2) ((hset σ (Int.toNat x0 + 1) (σ (Int.toNat x0) 0) x1) (Int.toNat x0) 0) x2) (Int.toNat x0 + 3) ((hset (hset σ (Int.toNat x0 + 1) (σ (Int.toNat x0) 0) x1) (Int.toNat x0 + 2) ((hset σ (Int.toNat x0 + 1) (σ (Int.toNat x0) 0) x1) (Int.toNat x0) 0) x2) (Int.toNat x0) 0) x3) (Int.toNat x0) 0) + 1))) (0, none, true, n, e, r) := by
      obtain ⟨g19, h⟩ := gd h
      refine go_iadd (pc' := 65) dX2_put_64 rfl g19 ?_
      obtain ⟨g20, h⟩ := gd h
      refine go_putIF (pc' := 68) dX2_put_65 rfl rf_2_25 rfl g20 ?_
      cases h
      exact k3J
    clear h
    have h := k18
    refine go_icmp_gt (t := 63) (pc' := 59) dX2_put_56 rfl rfl (fun c21 => ?_) (fun c21 => ?_)
    · rw [if_pos (show 2 < x1 from c21)] at h
      refine go_iconst (pc' := 64) dX2_put_63 rfl (r32_c rfl) ?_
      cases h
      exact k18J
    · rw [if_neg (show ¬ (2 < x1) from c21)] at h
      refine go_iconst (pc' := 60) dX2_put_59 rfl (r32_c rfl) ?_
      refine go_goto (t := 64) dX2_put_60 rfl ?_
      cases h
      exact k18J

set_option maxRecDepth 10000 in
theorem l_C_word (d : Nat) (n e : Nat) (σ : Hp) (x1 : Int) (x2 : Int) (x3 : Int) (r : Nat × Int × Hp) (h : f_C_word σ x1 x2 x3 = some r) : Ev (d + 2) 56 [pvR 10 0 0, pvI x1, pvI x2, pvI x3] (true, n, e, σ) (r.1, if r.1 = 0 then some (pvI r.2.1) else none, true, n, e + if r.1 = 0 then 0 else 1, r.2.2) := by
  unfold f_C_word at h
  refine Ev.of mtE56 rfl rfl rfl rfl ?_
  show Go none (Ev (d + 1)) mt56 0 [some (pvR 10 0 0), some (pvI x1), some (pvI x2), some (pvI x3)] [] (true, n, e, σ) (r.1, if r.1 = 0 then some (pvI r.2.1) else none, true, n, e + if r.1 = 0 then 0 else 1, r.2.2)
  refine go_iload_n (pc' := 1) dX10_word_0 rfl rfl ?_
  refine go_iconst (pc' := 2) dX10_word_1 rfl (r32_c rfl) ?_
  refine go_bipush (pc' := 4) dX10_word_2 rfl (r32_c rfl) (by decide) ?_
  obtain ⟨v1, k2, h⟩ := bd h
  by_cases c3 : v1 = 0
  · rw [if_pos c3] at h
    have k2 := l_C_needRange (d + 0) n e σ x1 0 6 _ k2
    rw [c3] at k2
    refine go_call (kc := 24) (Mc := mt24) (v := none) (w' := (true, n, e, σ)) (pc' := 7) (st' := []) [pvI x1, pvI 0, pvI 6] [] (Or.inr (Or.inl rfl)) dX10_word_4 rfl rm_10_70 mtE24 rfl rfl rfl (Nat.le_of_ble_eq_true rfl) (Or.inl (by decide)) k2 rfl ?_
    refine go_iload_n (pc' := 8) dX10_word_7 rfl rfl ?_
    obtain ⟨j4, k5, h⟩ := bd h
    have k5J : j4.1 = 0 → Go none (Ev (d + 1)) mt56 19 [some (pvR 10 0 0), some (pvI x1), some (pvI x2), some (pvI x3)] [] (true, n, e, σ) (r.1, if r.1 = 0 then some (pvI r.2.1) else none, true, n, e + if r.1 = 0 then 0 else 1, r.2.2) := by
      intro c43
      rw [if_pos c43] at h
      refine go_iload_n (pc' := 20) dX10_word_19 rfl rfl ?_
      refine go_iconst (pc' := 21) dX10_word_20 rfl (r32_c rfl) ?_
      obtain ⟨j10, k11, h⟩ := bd h
      have k11J : j10.1 = 0 → Go none (Ev (d + 1)) mt56 36 [some (pvR 10 0 0), some (pvI x1), some (pvI x2), some (pvI x3)] [] (true, n, e, σ) (r.1, if r.1 = 0 then some (pvI r.2.1) else none, true, n, e + if r.1 = 0 then 0 else 1, r.2.2) := by
        intro c41
        rw [if_pos c41] at h
        refine go_iload_n (pc' := 37) dX10_word_36 rfl rfl ?_
        refine go_iconst (pc' := 38) dX10_word_37 rfl (r32_c rfl) ?_
        obtain ⟨j21, k22, h⟩ := bd h
        have k22J : j21.1 = 0 → Go none (Ev (d + 1)) mt56 48 [some (pvR 10 0 0), some (pvI x1), some (pvI x2), some (pvI x3)] [] (true, n, e, σ) (r.1, if r.1 = 0 then some (pvI r.2.1) else none, true, n, e + if r.1 = 0 then 0 else 1, r.2.2) := by
          intro c39
          rw [if_pos c39] at h
          refine go_aload_n (pc' := 49) dX10_word_48 rfl rfl (Nat.le_of_ble_eq_true rfl) ?_
          refine go_getF (pc' := 52) dX10_word_49 rfl rf_10_58 rfl ?_
          refine go_iload_n (pc' := 53) dX10_word_52 rfl rfl ?_
          obtain ⟨g27, h⟩ := gd h
          obtain ⟨v28, k29, h⟩ := bd h
          have k29 := l_F_hasRoomFor (d + 0) n e σ (σ 0 6) x1 _ k29
          refine go_call (kc := 57) (Mc := mt57) (v := some (pvI v28)) (w' := (true, n, e, σ)) (pc' := 56) (st' := [pvI v28]) [pvF (σ 0 6), pvI x1] [] (Or.inl rfl) dX10_word_53 rfl rm_10_167 mtE57 rfl rfl rfl (Nat.le_of_ble_eq_true rfl) (Or.inr ⟨_, _, Int.toNat (σ 0 6), rfl, Or.inr ⟨rfl, by rw [Int.toNat_of_nonneg g27]⟩⟩) k29 rfl ?_
          obtain ⟨v30, k31, h⟩ := bd h
          by_cases c32 : v30 = 0
          · rw [if_pos c32] at h
            have k31 := l_C_need (d + 0) n e σ v28 _ k31
            rw [c32] at k31
            refine go_call (kc := 26) (Mc := mt26) (v := none) (w' := (true, n, e, σ)) (pc' := 59) (st' := []) [pvI v28] [] (Or.inr (Or.inl rfl)) dX10_word_56 rfl rm_10_84 mtE26 rfl rfl rfl (Nat.le_of_ble_eq_true rfl) (Or.inl (by decide)) k31 rfl ?_
            refine go_aload_n (pc' := 60) dX10_word_59 rfl rfl (Nat.le_of_ble_eq_true rfl) ?_
            refine go_getF (pc' := 63) dX10_word_60 rfl rf_10_58 rfl ?_
            refine go_iload_n (pc' := 64) dX10_word_63 rfl rfl ?_
            refine go_iload_n (pc' := 65) dX10_word_64 rfl rfl ?_
            refine go_iload_n (pc' := 66) dX10_word_65 rfl rfl ?_
            obtain ⟨g33, h⟩ := gd h
            obtain ⟨v34, k35, h⟩ := bd h
            have k35 := l_F_put (d + 0) n e σ (σ 0 6) x1 x2 x3 _ k35
            refine go_call (kc := 58) (Mc := mt58) (v := none) (w' := (true, n, e, v34)) (pc' := 69) (st' := []) [pvF (σ 0 6), pvI x1, pvI x2, pvI x3] [] (Or.inl rfl) dX10_word_66 rfl rm_10_170 mtE58 rfl rfl rfl (Nat.le_of_ble_eq_true rfl) (Or.inr ⟨_, _, Int.toNat (σ 0 6), rfl, Or.inr ⟨rfl, by rw [Int.toNat_of_nonneg g33]⟩⟩) k35 rfl ?_
            refine go_aload_n (pc' := 70) dX10_word_69 rfl rfl (Nat.le_of_ble_eq_true rfl) ?_
            refine go_getF (pc' := 73) dX10_word_70 rfl rf_10_58 rfl ?_
            obtain ⟨g36, h⟩ := gd h
            refine go_getIF (pc' := 76) dX10_word_73 rfl rf_10_173 rfl g36 ?_
            cases h
            exact go_iret dX10_word_76 rfl rfl
          · rw [if_neg c32] at h
            obtain ⟨g37, h⟩ := gd h
            cases h
            have k31 := l_C_need (d + 0) n e σ v28 _ k31
            simp only [if_neg c32] at k31 ⊢
            exact go_callX (kc := 26) (Mc := mt26) [pvI v28] [] (Or.inr rfl) dX10_word_56 rm_10_84 mtE26 rfl rfl rfl (Nat.le_of_ble_eq_true rfl) (Or.inl (by decide)) rfl c32 g37 k31 rfl
        have k22X : j21.1 ≠ 0 → r = (j21.1, 0, σ) := by
          intro c39
          rw [if_neg c39] at h
          cases h
          rfl
        clear h
        have h := k22
        refine go_icmp_ne (t := 48) (pc' := 41) dX10_word_38 rfl rfl (fun c38 => ?_) (fun c38 => ?_)
        · rw [if_pos (show x1 ≠ 1 from c38)] at h
          cases h
          exact (k22J rfl)
        · rw [if_neg (show ¬ (x1 ≠ 1) from c38)] at h
          refine go_iload_n (pc' := 42) dX10_word_41 rfl rfl ?_
          refine go_iconst (pc' := 43) dX10_word_42 rfl (r32_c rfl) ?_
          refine go_bipush (pc' := 45) dX10_word_43 rfl (r32_c rfl) (by decide) ?_
          obtain ⟨v23, k24, h⟩ := bd h
          by_cases c25 : v23 = 0
          · rw [if_pos c25] at h
            have k24 := l_C_needRange (d + 0) n e σ x3 0 11 _ k24
            rw [c25] at k24
            refine go_call (kc := 24) (Mc := mt24) (v := none) (w' := (true, n, e, σ)) (pc' := 48) (st' := []) [pvI x3, pvI 0, pvI 11] [] (Or.inr (Or.inl rfl)) dX10_word_45 rfl rm_10_70 mtE24 rfl rfl rfl (Nat.le_of_ble_eq_true rfl) (Or.inl (by decide)) k24 rfl ?_
            cases h
            exact (k22J rfl)
          · rw [if_neg c25] at h
            obtain ⟨g26, h⟩ := gd h
            cases h
            have hr : r = (v23, 0, σ) := k22X c25
            subst hr
            have k24 := l_C_needRange (d + 0) n e σ x3 0 11 _ k24
            simp only [if_neg c25] at k24 ⊢
            exact go_callX (kc := 24) (Mc := mt24) [pvI x3, pvI 0, pvI 11] [] (Or.inr rfl) dX10_word_45 rm_10_70 mtE24 rfl rfl rfl (Nat.le_of_ble_eq_true rfl) (Or.inl (by decide)) rfl c25 g26 k24 rfl
      have k11X : j10.1 ≠ 0 → r = (j10.1, 0, σ) := by
        intro c41
        rw [if_neg c41] at h
        cases h
        rfl
      clear h
      have h := k11
      refine go_icmp_eq (t := 29) (pc' := 24) dX10_word_21 rfl rfl (fun c40 => ?_) (fun c40 => ?_)
      · rw [if_pos (show x1 = 1 from c40)] at h
        refine go_iload_n (pc' := 30) dX10_word_29 rfl rfl ?_
        refine go_iconst (pc' := 31) dX10_word_30 rfl (r32_c rfl) ?_
        refine go_bipush (pc' := 33) dX10_word_31 rfl (r32_c rfl) (by decide) ?_
        obtain ⟨v12, k13, h⟩ := bd h
        by_cases c14 : v12 = 0
        · rw [if_pos c14] at h
          have k13 := l_C_needRange (d + 0) n e σ x2 0 11 _ k13
          rw [c14] at k13
          refine go_call (kc := 24) (Mc := mt24) (v := none) (w' := (true, n, e, σ)) (pc' := 36) (st' := []) [pvI x2, pvI 0, pvI 11] [] (Or.inr (Or.inl rfl)) dX10_word_33 rfl rm_10_70 mtE24 rfl rfl rfl (Nat.le_of_ble_eq_true rfl) (Or.inl (by decide)) k13 rfl ?_
          cases h
          exact (k11J rfl)
        · rw [if_neg c14] at h
          obtain ⟨g15, h⟩ := gd h
          cases h
          have hr : r = (v12, 0, σ) := k11X c14
          subst hr
          have k13 := l_C_needRange (d + 0) n e σ x2 0 11 _ k13
          simp only [if_neg c14] at k13 ⊢
          exact go_callX (kc := 24) (Mc := mt24) [pvI x2, pvI 0, pvI 11] [] (Or.inr rfl) dX10_word_33 rm_10_70 mtE24 rfl rfl rfl (Nat.le_of_ble_eq_true rfl) (Or.inl (by decide)) rfl c14 g15 k13 rfl
      · rw [if_neg (show ¬ (x1 = 1) from c40)] at h
        refine go_iload_n (pc' := 25) dX10_word_24 rfl rfl ?_
        refine go_iconst (pc' := 26) dX10_word_25 rfl (r32_c rfl) ?_
        refine go_icmp_ne (t := 36) (pc' := 29) dX10_word_26 rfl rfl (fun c20 => ?_) (fun c20 => ?_)
        · rw [if_pos (show x1 ≠ 2 from c20)] at h
          cases h
          exact (k11J rfl)
        · rw [if_neg (show ¬ (x1 ≠ 2) from c20)] at h
          refine go_iload_n (pc' := 30) dX10_word_29 rfl rfl ?_
          refine go_iconst (pc' := 31) dX10_word_30 rfl (r32_c rfl) ?_
          refine go_bipush (pc' := 33) dX10_word_31 rfl (r32_c rfl) (by decide) ?_
          obtain ⟨v16, k17, h⟩ := bd h
          by_cases c18 : v16 = 0
          · rw [if_pos c18] at h
            have k17 := l_C_needRange (d + 0) n e σ x2 0 11 _ k17
            rw [c18] at k17
            refine go_call (kc := 24) (Mc := mt24) (v := none) (w' := (true, n, e, σ)) (pc' := 36) (st' := []) [pvI x2, pvI 0, pvI 11] [] (Or.inr (Or.inl rfl)) dX10_word_33 rfl rm_10_70 mtE24 rfl rfl rfl (Nat.le_of_ble_eq_true rfl) (Or.inl (by decide)) k17 rfl ?_
            cases h
            exact (k11J rfl)
          · rw [if_neg c18] at h
            obtain ⟨g19, h⟩ := gd h
            cases h
            have hr : r = (v16, 0, σ) := k11X c18
            subst hr
            have k17 := l_C_needRange (d + 0) n e σ x2 0 11 _ k17
            simp only [if_neg c18] at k17 ⊢
            exact go_callX (kc := 24) (Mc := mt24) [pvI x2, pvI 0, pvI 11] [] (Or.inr rfl) dX10_word_33 rm_10_70 mtE24 rfl rfl rfl (Nat.le_of_ble_eq_true rfl) (Or.inl (by decide)) rfl c18 g19 k17 rfl
    have k5X : j4.1 ≠ 0 → r = (j4.1, 0, σ) := by
      intro c43
      rw [if_neg c43] at h
      cases h
      rfl
    clear h
    have h := k5
    refine go_if_ne (t := 19) (pc' := 11) dX10_word_8 rfl rfl (fun c42 => ?_) (fun c42 => ?_)
    · rw [if_pos (show x1 ≠ 0 from c42)] at h
      cases h
      exact (k5J rfl)
    · rw [if_neg (show ¬ (x1 ≠ 0) from c42)] at h
      refine go_iload_n (pc' := 12) dX10_word_11 rfl rfl ?_
      refine go_ldc (pc' := 14) dX10_word_12 rfl (r32_c rfl) rc_10_165 ?_
      refine go_ldc (pc' := 16) dX10_word_14 rfl (r32_c rfl) rc_10_166 ?_
      obtain ⟨v6, k7, h⟩ := bd h
      by_cases c8 : v6 = 0
      · rw [if_pos c8] at h
        have k7 := l_C_needRange (d + 0) n e σ x2 (-1000000) 1000000 _ k7
        rw [c8] at k7
        refine go_call (kc := 24) (Mc := mt24) (v := none) (w' := (true, n, e, σ)) (pc' := 19) (st' := []) [pvI x2, pvI (-1000000), pvI 1000000] [] (Or.inr (Or.inl rfl)) dX10_word_16 rfl rm_10_70 mtE24 rfl rfl rfl (Nat.le_of_ble_eq_true rfl) (Or.inl (by decide)) k7 rfl ?_
        cases h
        exact (k5J rfl)
      · rw [if_neg c8] at h
        obtain ⟨g9, h⟩ := gd h
        cases h
        have hr : r = (v6, 0, σ) := k5X c8
        subst hr
        have k7 := l_C_needRange (d + 0) n e σ x2 (-1000000) 1000000 _ k7
        simp only [if_neg c8] at k7 ⊢
        exact go_callX (kc := 24) (Mc := mt24) [pvI x2, pvI (-1000000), pvI 1000000] [] (Or.inr rfl) dX10_word_16 rm_10_70 mtE24 rfl rfl rfl (Nat.le_of_ble_eq_true rfl) (Or.inl (by decide)) rfl c8 g9 k7 rfl
  · rw [if_neg c3] at h
    obtain ⟨g44, h⟩ := gd h
    cases h
    have k2 := l_C_needRange (d + 0) n e σ x1 0 6 _ k2
    simp only [if_neg c3] at k2 ⊢
    exact go_callX (kc := 24) (Mc := mt24) [pvI x1, pvI 0, pvI 6] [] (Or.inr rfl) dX10_word_4 rm_10_70 mtE24 rfl rfl rfl (Nat.le_of_ble_eq_true rfl) (Or.inl (by decide)) rfl c3 g44 k2 rfl

set_option maxRecDepth 10000 in
theorem l_L_word (d : Nat) (n e : Nat) (σ : Hp) (x2 : Int) (x3 : Int) (x4 : Int) (r : Int × Nat × Hp) (h : f_L_word σ e x2 x3 x4 = some r) : Ev (d + 3) 55 [pvR 10 0 0, pvI x2, pvI x3, pvI x4, pvR 13 1 170] (true, n, e, σ) (0, some (pvI r.1), true, n, r.2.1, r.2.2) := by
  unfold f_L_word at h
  refine Ev.of mtE55 rfl rfl rfl rfl ?_
  show Go none (Ev (d + 2)) mt55 0 [some (pvR 10 0 0), some (pvI x2), some (pvI x3), some (pvI x4), some (pvR 13 1 170), none] [] (true, n, e, σ) (0, some (pvI r.1), true, n, r.2.1, r.2.2)
  refine go_aload (pc' := 2) dL_word_0 rfl rfl (Nat.le_of_ble_eq_true rfl) ?_
  refine go_iconst (pc' := 3) dL_word_2 rfl (r32_c rfl) ?_
  refine go_aload_n (pc' := 4) dL_word_3 rfl rfl (Nat.le_of_ble_eq_true rfl) ?_
  refine go_iload_n (pc' := 5) dL_word_4 rfl rfl ?_
  refine go_iload_n (pc' := 6) dL_word_5 rfl rfl ?_
  refine go_iload_n (pc' := 7) dL_word_6 rfl rfl ?_
  obtain ⟨v1, k2, h⟩ := bd h
  by_cases c3 : v1.1 = 0
  · rw [if_pos c3] at h
    have k2 := l_C_word (d + 0) n e σ x2 x3 x4 _ k2
    rw [c3] at k2
    refine go_call (kc := 56) (Mc := mt56) (v := some (pvI v1.2.1)) (w' := (true, n, e, v1.2.2)) (pc' := 10) (st' := [pvI v1.2.1, pvI 0, pvR 13 1 170]) [pvR 10 0 0, pvI x2, pvI x3, pvI x4] [pvI 0, pvR 13 1 170] (Or.inl rfl) dL_word_7 rfl rm_12_30 mtE56 rfl rfl rfl (Nat.le_of_ble_eq_true rfl) (Or.inr ⟨_, _, 0, rfl, Or.inl rfl⟩) k2 rfl ?_
    refine go_i2l (pc' := 11) dL_word_10 rfl ?_
    obtain ⟨g4, h⟩ := gd h
    refine go_last (pc' := 12) dL_word_11 rfl g4 ?_
    refine go_goto (t := 23) dL_word_12 rfl ?_
    refine go_iconst (pc' := 24) dL_word_23 rfl (r32_c rfl) ?_
    cases h
    exact go_iret dL_word_24 rfl rfl
  · rw [if_neg c3] at h
    by_cases c5 : v1.1 = 2
    · rw [if_pos c5] at h
      have k2 := l_C_word (d + 0) n e σ x2 x3 x4 _ k2
      rw [c5] at k2
      refine go_callH (x := 2) (kc := 56) (Mc := mt56) (h := 15) (i := 5) (ln := 2) (w' := (true, n, (e + 1), v1.2.2)) (pc' := 17) (L' := [some (pvR 10 0 0), some (pvI x2), some (pvI x3), some (pvI x4), some (pvR 13 1 170), none]) [pvR 10 0 0, pvI x2, pvI x3, pvI x4] [pvI 0, pvR 13 1 170] (Or.inl rfl) dL_word_7 rm_12_30 mtE56 rfl rfl rfl (Nat.le_of_ble_eq_true rfl) (Or.inr ⟨_, _, 0, rfl, Or.inl rfl⟩) (by decide +kernel) (by decide) (by decide) (Or.inl ⟨dL_word_15, rfl⟩) (Nat.le_of_ble_eq_true rfl) rfl rfl k2 ?_
      refine go_iconst (pc' := 18) dL_word_17 rfl (r32_c rfl) ?_
      cases h
      exact go_iret dL_word_18 rfl rfl
    · rw [if_neg c5] at h
      by_cases c6 : v1.1 = 3
      · rw [if_pos c6] at h
        have k2 := l_C_word (d + 0) n e σ x2 x3 x4 _ k2
        rw [c6] at k2
        refine go_callH (x := 3) (kc := 56) (Mc := mt56) (h := 19) (i := 5) (ln := 2) (w' := (true, n, (e + 1), v1.2.2)) (pc' := 21) (L' := [some (pvR 10 0 0), some (pvI x2), some (pvI x3), some (pvI x4), some (pvR 13 1 170), none]) [pvR 10 0 0, pvI x2, pvI x3, pvI x4] [pvI 0, pvR 13 1 170] (Or.inl rfl) dL_word_7 rm_12_30 mtE56 rfl rfl rfl (Nat.le_of_ble_eq_true rfl) (Or.inr ⟨_, _, 0, rfl, Or.inl rfl⟩) (by decide +kernel) (by decide) (by decide) (Or.inl ⟨dL_word_19, rfl⟩) (Nat.le_of_ble_eq_true rfl) rfl rfl k2 ?_
        refine go_iconst (pc' := 22) dL_word_21 rfl (r32_c rfl) ?_
        cases h
        exact go_iret dL_word_22 rfl rfl
      · rw [if_neg c6] at h
        cases h

set_option maxRecDepth 10000 in
theorem l_F_looksBeyond_2 (d : Nat) (n : Nat) (e : Nat) (σ : Hp) (x0 : Int) (x1 : Int) : ∀ (F : Nat) (y1 : Int) (r : Int), f_F_looksBeyond_2 σ x0 x1 F y1 = some r → Go none (Ev (d + 0)) mt61 2 [some (pvF x0), some (pvI x1), some (pvI y1)] [] (true, n, e, σ) (0, some (pvI r), true, n, e, σ) := by
  intro F
  induction F with
  | zero =>
    intro _ _ h
    rw [f_F_looksBeyond_2] at h
    cases h
  | succ F ih =>
    intro y1 r h
    rw [f_F_looksBeyond_2] at h
    refine go_iload_n (pc' := 3) dX2_looksBeyond_2 rfl rfl ?_
    refine go_aload_n (pc' := 4) dX2_looksBeyond_3 rfl rfl (Nat.le_of_ble_eq_true rfl) ?_
    obtain ⟨g2, h⟩ := gd h
    refine go_getIF (pc' := 7) dX2_looksBeyond_4 rfl rf_2_21 rfl g2 ?_
    refine go_icmp_ge (t := 48) (pc' := 10) dX2_looksBeyond_7 rfl rfl (fun c21 => ?_) (fun c21 => ?_)
    · rw [if_pos (show (σ (Int.toNat x0) 0) ≤ y1 from c21)] at h
      refine go_iconst (pc' := 49) dX2_looksBeyond_48 rfl (r32_c rfl) ?_
      obtain ⟨g3, h⟩ := gd h
      cases h
      exact go_zret dX2_looksBeyond_49 rfl g3 rfl
    · rw [if_neg (show ¬ ((σ (Int.toNat x0) 0) ≤ y1) from c21)] at h
      refine go_aload_n (pc' := 11) dX2_looksBeyond_10 rfl rfl (Nat.le_of_ble_eq_true rfl) ?_
      obtain ⟨g4, h⟩ := gd h
      refine go_getRF (k' := 12) (L0 := 10) (P' := (Int.toNat x0 + 1)) (pc' := 14) dX2_looksBeyond_11 rfl rf_2_9 rfl rfl g4 (by omega) ?_
      refine go_iload_n (pc' := 15) dX2_looksBeyond_14 rfl rfl ?_
      obtain ⟨g5, h⟩ := gd h
      refine go_iald (pc' := 16) dX2_looksBeyond_15 rfl g5 ?_
      refine go_iconst (pc' := 17) dX2_looksBeyond_16 rfl (r32_c rfl) ?_
      refine go_icmp_eq (t := 30) (pc' := 20) dX2_looksBeyond_17 rfl rfl (fun c20 => ?_) (fun c20 => ?_)
      · rw [if_pos (show (σ (Int.toNat x0 + 1) y1) = 1 from c20)] at h
        refine go_aload_n (pc' := 31) dX2_looksBeyond_30 rfl rfl (Nat.le_of_ble_eq_true rfl) ?_
        obtain ⟨g6, h⟩ := gd h
        refine go_getRF (k' := 12) (L0 := 10) (P' := (Int.toNat x0 + 2)) (pc' := 34) dX2_looksBeyond_31 rfl rf_2_15 rfl rfl g6 (by omega) ?_
        refine go_iload_n (pc' := 35) dX2_looksBeyond_34 rfl rfl ?_
        obtain ⟨g7, h⟩ := gd h
        refine go_iald (pc' := 36) dX2_looksBeyond_35 rfl g7 ?_
        refine go_iload_n (pc' := 37) dX2_looksBeyond_36 rfl rfl ?_
        refine go_icmp_lt (t := 42) (pc' := 40) dX2_looksBeyond_37 rfl rfl (fun c10 => ?_) (fun c10 => ?_)
        · rw [if_pos (show (σ (Int.toNat x0 + 2) y1) < x1 from c10)] at h
          obtain ⟨g8, h⟩ := gd h
          refine go_iinc (L' := [some (pvF x0), some (pvI x1), some (pvI (y1 + 1))]) (pc' := 45) dX2_looksBeyond_42 rfl rfl g8 rfl ?_
          refine go_goto (t := 2) dX2_looksBeyond_45 rfl ?_
          exact ih (y1 + 1) _ h
        · rw [if_neg (show ¬ ((σ (Int.toNat x0 + 2) y1) < x1) from c10)] at h
          refine go_iconst (pc' := 41) dX2_looksBeyond_40 rfl (r32_c rfl) ?_
          obtain ⟨g9, h⟩ := gd h
          cases h
          exact go_zret dX2_looksBeyond_41 rfl g9 rfl
      · rw [if_neg (show ¬ ((σ (Int.toNat x0 + 1) y1) = 1) from c20)] at h
        refine go_aload_n (pc' := 21) dX2_looksBeyond_20 rfl rfl (Nat.le_of_ble_eq_true rfl) ?_
        obtain ⟨g11, h⟩ := gd h
        refine go_getRF (k' := 12) (L0 := 10) (P' := (Int.toNat x0 + 1)) (pc' := 24) dX2_looksBeyond_21 rfl rf_2_9 rfl rfl g11 (by omega) ?_
        refine go_iload_n (pc' := 25) dX2_looksBeyond_24 rfl rfl ?_
        obtain ⟨g12, h⟩ := gd h
        refine go_iald (pc' := 26) dX2_looksBeyond_25 rfl g12 ?_
        refine go_iconst (pc' := 27) dX2_looksBeyond_26 rfl (r32_c rfl) ?_
        refine go_icmp_ne (t := 42) (pc' := 30) dX2_looksBeyond_27 rfl rfl (fun c19 => ?_) (fun c19 => ?_)
        · rw [if_pos (show (σ (Int.toNat x0 + 1) y1) ≠ 2 from c19)] at h
          obtain ⟨g13, h⟩ := gd h
          refine go_iinc (L' := [some (pvF x0), some (pvI x1), some (pvI (y1 + 1))]) (pc' := 45) dX2_looksBeyond_42 rfl rfl g13 rfl ?_
          refine go_goto (t := 2) dX2_looksBeyond_45 rfl ?_
          exact ih (y1 + 1) _ h
        · rw [if_neg (show ¬ ((σ (Int.toNat x0 + 1) y1) ≠ 2) from c19)] at h
          refine go_aload_n (pc' := 31) dX2_looksBeyond_30 rfl rfl (Nat.le_of_ble_eq_true rfl) ?_
          obtain ⟨g14, h⟩ := gd h
          refine go_getRF (k' := 12) (L0 := 10) (P' := (Int.toNat x0 + 2)) (pc' := 34) dX2_looksBeyond_31 rfl rf_2_15 rfl rfl g14 (by omega) ?_
          refine go_iload_n (pc' := 35) dX2_looksBeyond_34 rfl rfl ?_
          obtain ⟨g15, h⟩ := gd h
          refine go_iald (pc' := 36) dX2_looksBeyond_35 rfl g15 ?_
          refine go_iload_n (pc' := 37) dX2_looksBeyond_36 rfl rfl ?_
          refine go_icmp_lt (t := 42) (pc' := 40) dX2_looksBeyond_37 rfl rfl (fun c18 => ?_) (fun c18 => ?_)
          · rw [if_pos (show (σ (Int.toNat x0 + 2) y1) < x1 from c18)] at h
            obtain ⟨g16, h⟩ := gd h
            refine go_iinc (L' := [some (pvF x0), some (pvI x1), some (pvI (y1 + 1))]) (pc' := 45) dX2_looksBeyond_42 rfl rfl g16 rfl ?_
            refine go_goto (t := 2) dX2_looksBeyond_45 rfl ?_
            exact ih (y1 + 1) _ h
          · rw [if_neg (show ¬ ((σ (Int.toNat x0 + 2) y1) < x1) from c18)] at h
            refine go_iconst (pc' := 41) dX2_looksBeyond_40 rfl (r32_c rfl) ?_
            obtain ⟨g17, h⟩ := gd h
            cases h
            exact go_zret dX2_looksBeyond_41 rfl g17 rfl

set_option maxRecDepth 10000 in
theorem l_F_looksBeyond (d : Nat) (n e : Nat) (σ : Hp) (x0 : Int) (x1 : Int) (r : Int) (h : f_F_looksBeyond σ x0 x1 = some r) : Ev (d + 1) 61 [pvF x0, pvI x1] (true, n, e, σ) (0, some (pvI r), true, n, e, σ) := by
  unfold f_F_looksBeyond at h
  refine Ev.of mtE61 rfl rfl rfl rfl ?_
  show Go none (Ev (d + 0)) mt61 0 [some (pvF x0), some (pvI x1), none] [] (true, n, e, σ) (0, some (pvI r), true, n, e, σ)
  refine go_iconst (pc' := 1) dX2_looksBeyond_0 rfl (r32_c rfl) ?_
  refine go_istore_n (L' := [some (pvF x0), some (pvI x1), some (pvI 0)]) (pc' := 2) dX2_looksBeyond_1 rfl (Nat.le_of_ble_eq_true rfl) rfl ?_
  exact l_F_looksBeyond_2 d n e σ x0 x1 zFuel 0 _ h

