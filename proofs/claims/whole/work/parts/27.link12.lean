/-! ===== links: each function is what its bytecode does ===== -/
set_option maxRecDepth 10000 in
theorem l_M_end_35 (d : Nat) (n : Nat) (e : Nat) (x1 : Int) {out : Out} : ∀ (F : Nat) (y7 : Int) (σ8 : Hp) (j18 : Int × Hp), f_M_end_35 F y7 σ8 = some j18 → Go none (Ev (d + 1)) mt236 84 [some (pvR 11 0 129), some (pvI x1), some (pvI j18.1)] [] (true, n, e, j18.2) out → Go none (Ev (d + 1)) mt236 35 [some (pvR 11 0 129), some (pvI x1), some (pvI y7)] [] (true, n, e, σ8) out := by
  intro F
  induction F with
  | zero =>
    intro _ _ _ h
    intro _
    rw [f_M_end_35] at h
    cases h
  | succ F ih =>
    intro y7 σ8 j18 h hx
    rw [f_M_end_35] at h
    refine go_iload_n (pc' := 36) dX11_end_35 rfl rfl ?_
    refine go_aload_n (pc' := 37) dX11_end_36 rfl rfl (Nat.le_of_ble_eq_true rfl) ?_
    refine go_getI (pc' := 40) dX11_end_37 rfl rf_11_230 rfl ?_
    refine go_icmp_ge (t := 84) (pc' := 43) dX11_end_40 rfl rfl (fun c17 => ?_) (fun c17 => ?_)
    · rw [if_pos (show (σ8 129 29) ≤ y7 from c17)] at h
      cases h
      exact hx
    · rw [if_neg (show ¬ ((σ8 129 29) ≤ y7) from c17)] at h
      refine go_aload_n (pc' := 44) dX11_end_43 rfl rfl (Nat.le_of_ble_eq_true rfl) ?_
      refine go_iload_n (pc' := 45) dX11_end_44 rfl rfl ?_
      refine go_aload_n (pc' := 46) dX11_end_45 rfl rfl (Nat.le_of_ble_eq_true rfl) ?_
      refine go_getR (k' := 12) (L0 := 51) (P' := 155) (pc' := 49) dX11_end_46 rfl rf_11_87 rfl rfl (by omega) ?_
      refine go_iload_n (pc' := 50) dX11_end_49 rfl rfl ?_
      obtain ⟨g9, h⟩ := gd h
      refine go_iald (pc' := 51) dX11_end_50 rfl g9 ?_
      refine go_aload_n (pc' := 52) dX11_end_51 rfl rfl (Nat.le_of_ble_eq_true rfl) ?_
      refine go_getR (k' := 12) (L0 := 51) (P' := 156) (pc' := 55) dX11_end_52 rfl rf_11_90 rfl rfl (by omega) ?_
      refine go_iload_n (pc' := 56) dX11_end_55 rfl rfl ?_
      obtain ⟨g10, h⟩ := gd h
      refine go_iald (pc' := 57) dX11_end_56 rfl g10 ?_
      refine go_aload_n (pc' := 58) dX11_end_57 rfl rfl (Nat.le_of_ble_eq_true rfl) ?_
      refine go_getR (k' := 12) (L0 := 51) (P' := 157) (pc' := 61) dX11_end_58 rfl rf_11_93 rfl rfl (by omega) ?_
      refine go_iload_n (pc' := 62) dX11_end_61 rfl rfl ?_
      obtain ⟨g11, h⟩ := gd h
      refine go_iald (pc' := 63) dX11_end_62 rfl g11 ?_
      refine go_aload_n (pc' := 64) dX11_end_63 rfl rfl (Nat.le_of_ble_eq_true rfl) ?_
      refine go_getR (k' := 12) (L0 := 51) (P' := 158) (pc' := 67) dX11_end_64 rfl rf_11_96 rfl rfl (by omega) ?_
      refine go_iload_n (pc' := 68) dX11_end_67 rfl rfl ?_
      obtain ⟨g12, h⟩ := gd h
      refine go_iald (pc' := 69) dX11_end_68 rfl g12 ?_
      refine go_aload_n (pc' := 70) dX11_end_69 rfl rfl (Nat.le_of_ble_eq_true rfl) ?_
      refine go_getR (k' := 12) (L0 := 51) (P' := 159) (pc' := 73) dX11_end_70 rfl rf_11_99 rfl rfl (by omega) ?_
      refine go_iload_n (pc' := 74) dX11_end_73 rfl rfl ?_
      obtain ⟨g13, h⟩ := gd h
      refine go_iald (pc' := 75) dX11_end_74 rfl g13 ?_
      obtain ⟨v14, k15, h⟩ := bd h
      have k15 := l_M_lay (d + 0) n e σ8 y7 (σ8 155 y7) (σ8 156 y7) (σ8 157 y7) (σ8 158 y7) (σ8 159 y7) _ k15
      refine go_call (kc := 199) (Mc := mt199) (v := none) (w' := (true, n, e, v14)) (pc' := 78) (st' := []) [pvR 11 0 129, pvI y7, pvI (σ8 155 y7), pvI (σ8 156 y7), pvI (σ8 157 y7), pvI (σ8 158 y7), pvI (σ8 159 y7)] [] (Or.inl rfl) dX11_end_75 rfl rm_11_245 mtE199 rfl rfl rfl (Nat.le_of_ble_eq_true rfl) (Or.inr ⟨_, _, 129, rfl, Or.inl rfl⟩) k15 rfl ?_
      obtain ⟨g16, h⟩ := gd h
      refine go_iinc (L' := [some (pvR 11 0 129), some (pvI x1), some (pvI (y7 + 1))]) (pc' := 81) dX11_end_78 rfl rfl g16 rfl ?_
      refine go_goto (t := 35) dX11_end_81 rfl ?_
      exact ih (y7 + 1) v14 _ h hx

set_option maxRecDepth 10000 in
theorem l_M_end (d : Nat) (n e : Nat) (σ : Hp) (x1 : Int) (r : Int × Hp) (h : f_M_end σ x1 = some r) : Ev (d + 2) 236 [pvR 11 0 129, pvI x1] (true, n, e, σ) (0, some (pvI r.1), true, n, e, r.2) := by
  unfold f_M_end at h
  refine Ev.of mtE236 rfl rfl rfl rfl ?_
  show Go none (Ev (d + 1)) mt236 0 [some (pvR 11 0 129), some (pvI x1), none] [] (true, n, e, σ) (0, some (pvI r.1), true, n, e, r.2)
  refine go_aload_n (pc' := 1) dX11_end_0 rfl rfl (Nat.le_of_ble_eq_true rfl) ?_
  refine go_aload_n (pc' := 2) dX11_end_1 rfl rfl (Nat.le_of_ble_eq_true rfl) ?_
  refine go_getI (pc' := 5) dX11_end_2 rfl rf_11_102 rfl ?_
  obtain ⟨j1, k2, h⟩ := bd h
  have k2J : Go none (Ev (d + 1)) mt236 13 [some (pvR 11 0 129), some (pvI x1), none] [pvI j1, pvR 11 0 129] (true, n, e, σ) (0, some (pvI r.1), true, n, e, r.2) := by
    obtain ⟨v3, k4, h⟩ := bd h
    have k4 := l_M_holds (d + 0) n e σ j1 _ k4
    refine go_call (kc := 174) (Mc := mt174) (v := some (pvI v3.1)) (w' := (true, n, e, v3.2)) (pc' := 16) (st' := [pvI v3.1]) [pvR 11 0 129, pvI j1] [] (Or.inl rfl) dX11_end_13 rfl rm_11_185 mtE174 rfl rfl rfl (Nat.le_of_ble_eq_true rfl) (Or.inr ⟨_, _, 129, rfl, Or.inl rfl⟩) k4 rfl ?_
    refine go_if_eq (t := 21) (pc' := 19) dX11_end_16 rfl rfl (fun c24 => ?_) (fun c24 => ?_)
    · rw [if_pos (show v3.1 = 0 from c24)] at h
      refine go_iload_n (pc' := 22) dX11_end_21 rfl rfl ?_
      obtain ⟨j5, k6, h⟩ := bd h
      have k6J : Go none (Ev (d + 1)) mt236 88 [some (pvR 11 0 129), some (pvI x1), none] [] (true, n, e, j5) (0, some (pvI r.1), true, n, e, r.2) := by
        refine go_aload_n (pc' := 89) dX11_end_88 rfl rfl (Nat.le_of_ble_eq_true rfl) ?_
        refine go_iconst (pc' := 90) dX11_end_89 rfl (r32_c rfl) ?_
        refine go_putI (pc' := 93) dX11_end_90 rfl rf_11_102 rfl ?_
        refine go_aload_n (pc' := 94) dX11_end_93 rfl rfl (Nat.le_of_ble_eq_true rfl) ?_
        refine go_getI (pc' := 97) dX11_end_94 rfl rf_11_230 rfl ?_
        cases h
        exact go_iret dX11_end_97 rfl rfl
      clear h
      have h := k6
      refine go_if_ne (t := 88) (pc' := 25) dX11_end_22 rfl rfl (fun c23 => ?_) (fun c23 => ?_)
      · rw [if_pos (show x1 ≠ 0 from c23)] at h
        cases h
        exact k6J
      · rw [if_neg (show ¬ (x1 ≠ 0) from c23)] at h
        refine go_aload_n (pc' := 26) dX11_end_25 rfl rfl (Nat.le_of_ble_eq_true rfl) ?_
        refine go_aload_n (pc' := 27) dX11_end_26 rfl rfl (Nat.le_of_ble_eq_true rfl) ?_
        refine go_getI (pc' := 30) dX11_end_27 rfl rf_11_102 rfl ?_
        refine go_putI (pc' := 33) dX11_end_30 rfl rf_11_230 rfl ?_
        refine go_iconst (pc' := 34) dX11_end_33 rfl (r32_c rfl) ?_
        refine go_istore_n (L' := [some (pvR 11 0 129), some (pvI x1), some (pvI 0)]) (pc' := 35) dX11_end_34 rfl (Nat.le_of_ble_eq_true rfl) rfl ?_
        obtain ⟨j19, k20, h⟩ := bd h
        refine l_M_end_35 d n e x1 zFuel 0 (hset v3.2 129 29 (v3.2 129 35)) _ k20 ?_
        refine go_aload_n (pc' := 85) dX11_end_84 rfl rfl (Nat.le_of_ble_eq_true rfl) ?_
        obtain ⟨v21, k22, h⟩ := bd h
        have k22 := l_M_fresh (d + 0) n e j19.2 _ k22
        refine go_call (kc := 178) (Mc := mt178) (v := none) (w' := (true, n, e, v21)) (pc' := 88) (st' := []) [pvR 11 0 129] [] (Or.inl rfl) dX11_end_85 rfl rm_11_194 mtE178 rfl rfl rfl (Nat.le_of_ble_eq_true rfl) (Or.inr ⟨_, _, 129, rfl, Or.inl rfl⟩) k22 rfl ?_
        cases h
        exact go_sub k6J ⟨Or.inr rfl, Or.inr rfl, Or.inl rfl, trivial⟩
    · rw [if_neg (show ¬ (v3.1 = 0) from c24)] at h
      refine go_iconst (pc' := 20) dX11_end_19 rfl (r32_c rfl) ?_
      cases h
      exact go_iret dX11_end_20 rfl rfl
  clear h
  have h := k2
  refine go_if_ge (t := 12) (pc' := 8) dX11_end_5 rfl rfl (fun c25 => ?_) (fun c25 => ?_)
  · rw [if_pos (show 0 ≤ (σ 129 35) from c25)] at h
    refine go_iconst (pc' := 13) dX11_end_12 rfl (r32_c rfl) ?_
    cases h
    exact k2J
  · rw [if_neg (show ¬ (0 ≤ (σ 129 35)) from c25)] at h
    refine go_iconst (pc' := 9) dX11_end_8 rfl (r32_c rfl) ?_
    refine go_goto (t := 13) dX11_end_9 rfl ?_
    cases h
    exact k2J

set_option maxRecDepth 10000 in
theorem l_M_facts (d : Nat) (n e : Nat) (σ : Hp) (r : Int × Hp) (h : f_M_facts σ = some r) : Ev (d + 2) 237 [pvR 11 0 129] (true, n, e, σ) (0, some (pvI r.1), true, n, e, r.2) := by
  unfold f_M_facts at h
  refine Ev.of mtE237 rfl rfl rfl rfl ?_
  show Go none (Ev (d + 1)) mt237 0 [some (pvR 11 0 129)] [] (true, n, e, σ) (0, some (pvI r.1), true, n, e, r.2)
  refine go_aload_n (pc' := 1) dX11_facts_0 rfl rfl (Nat.le_of_ble_eq_true rfl) ?_
  refine go_iconst (pc' := 2) dX11_facts_1 rfl (r32_c rfl) ?_
  obtain ⟨v1, k2, h⟩ := bd h
  have k2 := l_M_holds (d + 0) n e σ 0 _ k2
  refine go_call (kc := 174) (Mc := mt174) (v := some (pvI v1.1)) (w' := (true, n, e, v1.2)) (pc' := 5) (st' := [pvI v1.1]) [pvR 11 0 129, pvI 0] [] (Or.inl rfl) dX11_facts_2 rfl rm_11_185 mtE174 rfl rfl rfl (Nat.le_of_ble_eq_true rfl) (Or.inr ⟨_, _, 129, rfl, Or.inl rfl⟩) k2 rfl ?_
  refine go_pop (pc' := 6) dX11_facts_5 rfl (Nat.ne_of_beq_eq_false rfl) ?_
  refine go_aload_n (pc' := 7) dX11_facts_6 rfl rfl (Nat.le_of_ble_eq_true rfl) ?_
  refine go_getI (pc' := 10) dX11_facts_7 rfl rf_11_230 rfl ?_
  cases h
  exact go_iret dX11_facts_10 rfl rfl

