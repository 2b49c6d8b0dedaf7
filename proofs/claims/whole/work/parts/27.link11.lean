/-! ===== links: each function is what its bytecode does ===== -/
set_option maxRecDepth 10000 in
theorem l_M_cellAnew (d : Nat) (n e : Nat) (σ : Hp) (x1 : Int) (x2 : Int) (x3 : Int) (x4 : Int) (r : Int × Hp) (h : f_M_cellAnew σ x1 x2 x3 x4 = some r) : Ev (d + 282) 219 [pvR 11 0 129, pvI x1, pvI x2, pvI x3, pvI x4] (true, n, e, σ) (0, some (pvL r.1), true, n, e, r.2) := by
  unfold f_M_cellAnew at h
  refine Ev.of mtE219 rfl rfl rfl rfl ?_
  show Go none (Ev (d + 281)) mt219 0 [some (pvR 11 0 129), some (pvI x1), some (pvI x2), some (pvI x3), some (pvI x4)] [] (true, n, e, σ) (0, some (pvL r.1), true, n, e, r.2)
  refine go_aload_n (pc' := 1) dX11_cellAnew_0 rfl rfl (Nat.le_of_ble_eq_true rfl) ?_
  refine go_aload_n (pc' := 2) dX11_cellAnew_1 rfl rfl (Nat.le_of_ble_eq_true rfl) ?_
  refine go_iload_n (pc' := 3) dX11_cellAnew_2 rfl rfl ?_
  refine go_iload_n (pc' := 4) dX11_cellAnew_3 rfl rfl ?_
  refine go_iload_n (pc' := 5) dX11_cellAnew_4 rfl rfl ?_
  refine go_iload (pc' := 7) dX11_cellAnew_5 rfl rfl ?_
  obtain ⟨v1, k2, h⟩ := bd h
  have k2 := l_M_areThere (d + 277) n e σ x1 x2 x3 x4 _ k2
  refine go_call (kc := 196) (Mc := mt196) (v := some (pvI v1)) (w' := (true, n, e, σ)) (pc' := 10) (st' := [pvI v1, pvR 11 0 129]) [pvR 11 0 129, pvI x1, pvI x2, pvI x3, pvI x4] [pvR 11 0 129] (Or.inl rfl) dX11_cellAnew_7 rfl rm_11_233 mtE196 rfl rfl rfl (Nat.le_of_ble_eq_true rfl) (Or.inr ⟨_, _, 129, rfl, Or.inl rfl⟩) k2 rfl ?_
  obtain ⟨j3, k4, h⟩ := bd h
  have k4J : Go none (Ev (d + 281)) mt219 18 [some (pvR 11 0 129), some (pvI x1), some (pvI x2), some (pvI x3), some (pvI x4)] [pvI j3, pvR 11 0 129] (true, n, e, σ) (0, some (pvL r.1), true, n, e, r.2) := by
    obtain ⟨v5, k6, h⟩ := bd h
    have k6 := l_M_holds (d + 280) n e σ j3 _ k6
    refine go_call (kc := 174) (Mc := mt174) (v := some (pvI v5.1)) (w' := (true, n, e, v5.2)) (pc' := 21) (st' := [pvI v5.1]) [pvR 11 0 129, pvI j3] [] (Or.inl rfl) dX11_cellAnew_18 rfl rm_11_185 mtE174 rfl rfl rfl (Nat.le_of_ble_eq_true rfl) (Or.inr ⟨_, _, 129, rfl, Or.inl rfl⟩) k6 rfl ?_
    obtain ⟨j7, k8, h⟩ := bd h
    have k8J : Go none (Ev (d + 281)) mt219 39 [some (pvR 11 0 129), some (pvI x1), some (pvI x2), some (pvI x3), some (pvI x4)] [pvL j7.1] (true, n, e, j7.2) (0, some (pvL r.1), true, n, e, r.2) := by
      cases h
      exact go_lret dX11_cellAnew_39 rfl rfl
    clear h
    have h := k8
    refine go_if_eq (t := 30) (pc' := 24) dX11_cellAnew_21 rfl rfl (fun c11 => ?_) (fun c11 => ?_)
    · rw [if_pos (show v5.1 = 0 from c11)] at h
      refine go_aload_n (pc' := 31) dX11_cellAnew_30 rfl rfl (Nat.le_of_ble_eq_true rfl) ?_
      refine go_iload_n (pc' := 32) dX11_cellAnew_31 rfl rfl ?_
      refine go_iload_n (pc' := 33) dX11_cellAnew_32 rfl rfl ?_
      refine go_iload_n (pc' := 34) dX11_cellAnew_33 rfl rfl ?_
      refine go_iload (pc' := 36) dX11_cellAnew_34 rfl rfl ?_
      obtain ⟨v9, k10, h⟩ := bd h
      have k10 := l_M_ask (d + 0) n e v5.2 x1 x2 x3 x4 _ k10
      refine go_call (kc := 220) (Mc := mt220) (v := some (pvL v9.1)) (w' := (true, n, e, v9.2)) (pc' := 39) (st' := [pvL v9.1]) [pvR 11 0 129, pvI x1, pvI x2, pvI x3, pvI x4] [] (Or.inl rfl) dX11_cellAnew_36 rfl rm_11_324 mtE220 rfl rfl rfl (Nat.le_of_ble_eq_true rfl) (Or.inr ⟨_, _, 129, rfl, Or.inl rfl⟩) k10 rfl ?_
      cases h
      exact k8J
    · rw [if_neg (show ¬ (v5.1 = 0) from c11)] at h
      refine go_ldc2 (pc' := 27) dX11_cellAnew_24 rfl (r64_c rfl) rc_11_183 ?_
      refine go_goto (t := 39) dX11_cellAnew_27 rfl ?_
      cases h
      exact k8J
  clear h
  have h := k4
  refine go_if_eq (t := 17) (pc' := 13) dX11_cellAnew_10 rfl rfl (fun c12 => ?_) (fun c12 => ?_)
  · rw [if_pos (show v1 = 0 from c12)] at h
    refine go_iconst (pc' := 18) dX11_cellAnew_17 rfl (r32_c rfl) ?_
    cases h
    exact k4J
  · rw [if_neg (show ¬ (v1 = 0) from c12)] at h
    refine go_iconst (pc' := 14) dX11_cellAnew_13 rfl (r32_c rfl) ?_
    refine go_goto (t := 18) dX11_cellAnew_14 rfl ?_
    cases h
    exact k4J

set_option maxRecDepth 10000 in
theorem l_M_kept (d : Nat) (n e : Nat) (σ : Hp) (r : Int × Hp) (h : f_M_kept σ = some r) : Ev (d + 2) 221 [pvR 11 0 129] (true, n, e, σ) (0, some (pvI r.1), true, n, e, r.2) := by
  unfold f_M_kept at h
  refine Ev.of mtE221 rfl rfl rfl rfl ?_
  show Go none (Ev (d + 1)) mt221 0 [some (pvR 11 0 129)] [] (true, n, e, σ) (0, some (pvI r.1), true, n, e, r.2)
  refine go_aload_n (pc' := 1) dX11_kept_0 rfl rfl (Nat.le_of_ble_eq_true rfl) ?_
  refine go_iconst (pc' := 2) dX11_kept_1 rfl (r32_c rfl) ?_
  obtain ⟨v1, k2, h⟩ := bd h
  have k2 := l_M_holds (d + 0) n e σ 0 _ k2
  refine go_call (kc := 174) (Mc := mt174) (v := some (pvI v1.1)) (w' := (true, n, e, v1.2)) (pc' := 5) (st' := [pvI v1.1]) [pvR 11 0 129, pvI 0] [] (Or.inl rfl) dX11_kept_2 rfl rm_11_185 mtE174 rfl rfl rfl (Nat.le_of_ble_eq_true rfl) (Or.inr ⟨_, _, 129, rfl, Or.inl rfl⟩) k2 rfl ?_
  refine go_pop (pc' := 6) dX11_kept_5 rfl (Nat.ne_of_beq_eq_false rfl) ?_
  refine go_aload_n (pc' := 7) dX11_kept_6 rfl rfl (Nat.le_of_ble_eq_true rfl) ?_
  refine go_getI (pc' := 10) dX11_kept_7 rfl rf_11_163 rfl ?_
  cases h
  exact go_iret dX11_kept_10 rfl rfl

set_option maxRecDepth 10000 in
theorem l_M_hits (d : Nat) (n e : Nat) (σ : Hp) (r : Int × Hp) (h : f_M_hits σ = some r) : Ev (d + 2) 222 [pvR 11 0 129] (true, n, e, σ) (0, some (pvI r.1), true, n, e, r.2) := by
  unfold f_M_hits at h
  refine Ev.of mtE222 rfl rfl rfl rfl ?_
  show Go none (Ev (d + 1)) mt222 0 [some (pvR 11 0 129)] [] (true, n, e, σ) (0, some (pvI r.1), true, n, e, r.2)
  refine go_aload_n (pc' := 1) dX11_hits_0 rfl rfl (Nat.le_of_ble_eq_true rfl) ?_
  refine go_iconst (pc' := 2) dX11_hits_1 rfl (r32_c rfl) ?_
  obtain ⟨v1, k2, h⟩ := bd h
  have k2 := l_M_holds (d + 0) n e σ 0 _ k2
  refine go_call (kc := 174) (Mc := mt174) (v := some (pvI v1.1)) (w' := (true, n, e, v1.2)) (pc' := 5) (st' := [pvI v1.1]) [pvR 11 0 129, pvI 0] [] (Or.inl rfl) dX11_hits_2 rfl rm_11_185 mtE174 rfl rfl rfl (Nat.le_of_ble_eq_true rfl) (Or.inr ⟨_, _, 129, rfl, Or.inl rfl⟩) k2 rfl ?_
  refine go_pop (pc' := 6) dX11_hits_5 rfl (Nat.ne_of_beq_eq_false rfl) ?_
  refine go_aload_n (pc' := 7) dX11_hits_6 rfl rfl (Nat.le_of_ble_eq_true rfl) ?_
  refine go_getI (pc' := 10) dX11_hits_7 rfl rf_11_315 rfl ?_
  cases h
  exact go_iret dX11_hits_10 rfl rfl

set_option maxRecDepth 10000 in
theorem l_M_at (d : Nat) (n e : Nat) (σ : Hp) (x1 : Int) (x2 : Int) (r : Int × Hp) (h : f_M_at σ x1 x2 = some r) : Ev (d + 4) 223 [pvR 11 0 129, pvI x1, pvI x2] (true, n, e, σ) (0, some (pvI r.1), true, n, e, r.2) := by
  unfold f_M_at at h
  refine Ev.of mtE223 rfl rfl rfl rfl ?_
  show Go none (Ev (d + 3)) mt223 0 [some (pvR 11 0 129), some (pvI x1), some (pvI x2), none] [] (true, n, e, σ) (0, some (pvI r.1), true, n, e, r.2)
  refine go_aload_n (pc' := 1) dX11_at_0 rfl rfl (Nat.le_of_ble_eq_true rfl) ?_
  refine go_aload_n (pc' := 2) dX11_at_1 rfl rfl (Nat.le_of_ble_eq_true rfl) ?_
  refine go_iload_n (pc' := 3) dX11_at_2 rfl rfl ?_
  refine go_iload_n (pc' := 4) dX11_at_3 rfl rfl ?_
  obtain ⟨v1, k2, h⟩ := bd h
  have k2 := l_M_is (d + 0) n e σ x1 x2 _ k2
  refine go_call (kc := 170) (Mc := mt170) (v := some (pvI v1)) (w' := (true, n, e, σ)) (pc' := 7) (st' := [pvI v1, pvR 11 0 129]) [pvR 11 0 129, pvI x1, pvI x2] [pvR 11 0 129] (Or.inl rfl) dX11_at_4 rfl rm_11_156 mtE170 rfl rfl rfl (Nat.le_of_ble_eq_true rfl) (Or.inr ⟨_, _, 129, rfl, Or.inl rfl⟩) k2 rfl ?_
  obtain ⟨j3, k4, h⟩ := bd h
  have k4J : Go none (Ev (d + 3)) mt223 15 [some (pvR 11 0 129), some (pvI x1), some (pvI x2), none] [pvI j3, pvR 11 0 129] (true, n, e, σ) (0, some (pvI r.1), true, n, e, r.2) := by
    obtain ⟨v5, k6, h⟩ := bd h
    have k6 := l_M_holds (d + 2) n e σ j3 _ k6
    refine go_call (kc := 174) (Mc := mt174) (v := some (pvI v5.1)) (w' := (true, n, e, v5.2)) (pc' := 18) (st' := [pvI v5.1]) [pvR 11 0 129, pvI j3] [] (Or.inl rfl) dX11_at_15 rfl rm_11_185 mtE174 rfl rfl rfl (Nat.le_of_ble_eq_true rfl) (Or.inr ⟨_, _, 129, rfl, Or.inl rfl⟩) k6 rfl ?_
    refine go_if_eq (t := 23) (pc' := 21) dX11_at_18 rfl rfl (fun c9 => ?_) (fun c9 => ?_)
    · rw [if_pos (show v5.1 = 0 from c9)] at h
      refine go_aload_n (pc' := 24) dX11_at_23 rfl rfl (Nat.le_of_ble_eq_true rfl) ?_
      refine go_getR (k' := 12) (L0 := 3) (P' := 163) (pc' := 27) dX11_at_24 rfl rf_11_119 rfl rfl (by omega) ?_
      refine go_iload_n (pc' := 28) dX11_at_27 rfl rfl ?_
      obtain ⟨g7, h⟩ := gd h
      refine go_iald (pc' := 29) dX11_at_28 rfl g7 ?_
      refine go_istore_n (L' := [some (pvR 11 0 129), some (pvI x1), some (pvI x2), some (pvI (v5.2 163 x1))]) (pc' := 30) dX11_at_29 rfl (Nat.le_of_ble_eq_true rfl) rfl ?_
      refine go_aload_n (pc' := 31) dX11_at_30 rfl rfl (Nat.le_of_ble_eq_true rfl) ?_
      refine go_getR (k' := 12) (L0 := 3) (P' := 163) (pc' := 34) dX11_at_31 rfl rf_11_119 rfl rfl (by omega) ?_
      refine go_iload_n (pc' := 35) dX11_at_34 rfl rfl ?_
      refine go_iload_n (pc' := 36) dX11_at_35 rfl rfl ?_
      obtain ⟨g8, h⟩ := gd h
      refine go_iast (pc' := 37) dX11_at_36 rfl g8 ?_
      refine go_iload_n (pc' := 38) dX11_at_37 rfl rfl ?_
      cases h
      exact go_iret dX11_at_38 rfl rfl
    · rw [if_neg (show ¬ (v5.1 = 0) from c9)] at h
      refine go_iconst (pc' := 22) dX11_at_21 rfl (r32_c rfl) ?_
      cases h
      exact go_iret dX11_at_22 rfl rfl
  clear h
  have h := k4
  refine go_if_eq (t := 14) (pc' := 10) dX11_at_7 rfl rfl (fun c10 => ?_) (fun c10 => ?_)
  · rw [if_pos (show v1 = 0 from c10)] at h
    refine go_iconst (pc' := 15) dX11_at_14 rfl (r32_c rfl) ?_
    cases h
    exact k4J
  · rw [if_neg (show ¬ (v1 = 0) from c10)] at h
    refine go_iconst (pc' := 11) dX11_at_10 rfl (r32_c rfl) ?_
    refine go_goto (t := 15) dX11_at_11 rfl ?_
    cases h
    exact k4J

set_option maxRecDepth 10000 in
theorem l_M_fits_73 (d : Nat) (n : Nat) (e : Nat) (σ : Hp) (x1 : Int) (x2 : Int) (x3 : Int) (x4 : Int) {out : Out} : ∀ (F : Nat) (y6 : Int) (y7 : Int) (j19 : Int × Int), f_M_fits_73 σ x1 x3 F y6 y7 = some j19 → Go none (Ev (d + 3)) mt225 121 [some (pvR 11 0 129), some (pvI x1), some (pvI x2), some (pvI x3), some (pvI x4), some (pvI j19.1), some (pvI j19.2)] [] (true, n, e, σ) out → Go none (Ev (d + 3)) mt225 73 [some (pvR 11 0 129), some (pvI x1), some (pvI x2), some (pvI x3), some (pvI x4), some (pvI y6), some (pvI y7)] [] (true, n, e, σ) out := by
  intro F
  induction F with
  | zero =>
    intro _ _ _ h
    intro _
    rw [f_M_fits_73] at h
    cases h
  | succ F ih =>
    intro y6 y7 j19 h hx
    rw [f_M_fits_73] at h
    refine go_iload (pc' := 75) dX11_fits_73 rfl rfl ?_
    refine go_aload_n (pc' := 76) dX11_fits_75 rfl rfl (Nat.le_of_ble_eq_true rfl) ?_
    refine go_getR (k' := 12) (L0 := 3) (P' := 130) (pc' := 79) dX11_fits_76 rfl rf_11_9 rfl rfl (by omega) ?_
    refine go_iload_n (pc' := 80) dX11_fits_79 rfl rfl ?_
    obtain ⟨g8, h⟩ := gd h
    refine go_iald (pc' := 81) dX11_fits_80 rfl g8 ?_
    refine go_icmp_ge (t := 121) (pc' := 84) dX11_fits_81 rfl rfl (fun c18 => ?_) (fun c18 => ?_)
    · rw [if_pos (show (σ 130 x1) ≤ y7 from c18)] at h
      cases h
      exact hx
    · rw [if_neg (show ¬ ((σ 130 x1) ≤ y7) from c18)] at h
      refine go_iload (pc' := 86) dX11_fits_84 rfl rfl ?_
      refine go_aload_n (pc' := 87) dX11_fits_86 rfl rfl (Nat.le_of_ble_eq_true rfl) ?_
      refine go_iload_n (pc' := 88) dX11_fits_87 rfl rfl ?_
      refine go_iload (pc' := 90) dX11_fits_88 rfl rfl ?_
      obtain ⟨v9, k10, h⟩ := bd h
      have k10 := l_M_isPlain (d + 2) n e σ x1 y7 _ k10
      refine go_call (kc := 173) (Mc := mt173) (v := some (pvI v9)) (w' := (true, n, e, σ)) (pc' := 93) (st' := [pvI v9, pvI y6]) [pvR 11 0 129, pvI x1, pvI y7] [pvI y6] (Or.inl rfl) dX11_fits_90 rfl rm_11_180 mtE173 rfl rfl rfl (Nat.le_of_ble_eq_true rfl) (Or.inr ⟨_, _, 129, rfl, Or.inl rfl⟩) k10 rfl ?_
      obtain ⟨j11, k12, h⟩ := bd h
      have k12J : Go none (Ev (d + 3)) mt225 112 [some (pvR 11 0 129), some (pvI x1), some (pvI x2), some (pvI x3), some (pvI x4), some (pvI y6), some (pvI y7)] [pvI j11, pvI y6] (true, n, e, σ) out := by
        refine go_iand (pc' := 113) dX11_fits_112 rfl ?_
        refine go_istore (L' := [some (pvR 11 0 129), some (pvI x1), some (pvI x2), some (pvI x3), some (pvI x4), some (pvI (iand y6 j11)), some (pvI y7)]) (pc' := 115) dX11_fits_113 rfl (Nat.le_of_ble_eq_true rfl) rfl ?_
        obtain ⟨g16, h⟩ := gd h
        refine go_iinc (L' := [some (pvR 11 0 129), some (pvI x1), some (pvI x2), some (pvI x3), some (pvI x4), some (pvI (iand y6 j11)), some (pvI (y7 + 1))]) (pc' := 118) dX11_fits_115 rfl rfl g16 rfl ?_
        refine go_goto (t := 73) dX11_fits_118 rfl ?_
        exact ih (iand y6 j11) (y7 + 1) _ h hx
      clear h
      have h := k12
      refine go_if_eq (t := 107) (pc' := 96) dX11_fits_93 rfl rfl (fun c17 => ?_) (fun c17 => ?_)
      · rw [if_pos (show v9 = 0 from c17)] at h
        refine go_iconst (pc' := 108) dX11_fits_107 rfl (r32_c rfl) ?_
        refine go_goto (t := 112) dX11_fits_108 rfl ?_
        cases h
        exact k12J
      · rw [if_neg (show ¬ (v9 = 0) from c17)] at h
        refine go_aload_n (pc' := 97) dX11_fits_96 rfl rfl (Nat.le_of_ble_eq_true rfl) ?_
        refine go_iload_n (pc' := 98) dX11_fits_97 rfl rfl ?_
        refine go_iload (pc' := 100) dX11_fits_98 rfl rfl ?_
        obtain ⟨v13, k14, h⟩ := bd h
        have k14 := l_M_now (d + 1) n e σ x1 y7 _ k14
        refine go_call (kc := 181) (Mc := mt181) (v := some (pvI v13)) (w' := (true, n, e, σ)) (pc' := 103) (st' := [pvI v13, pvI y6]) [pvR 11 0 129, pvI x1, pvI y7] [pvI y6] (Or.inl rfl) dX11_fits_100 rfl rm_11_173 mtE181 rfl rfl rfl (Nat.le_of_ble_eq_true rfl) (Or.inr ⟨_, _, 129, rfl, Or.inl rfl⟩) k14 rfl ?_
        refine go_iload_n (pc' := 104) dX11_fits_103 rfl rfl ?_
        refine go_icmp_eq (t := 111) (pc' := 107) dX11_fits_104 rfl rfl (fun c15 => ?_) (fun c15 => ?_)
        · rw [if_pos (show v13 = x3 from c15)] at h
          refine go_iconst (pc' := 112) dX11_fits_111 rfl (r32_c rfl) ?_
          cases h
          exact k12J
        · rw [if_neg (show ¬ (v13 = x3) from c15)] at h
          refine go_iconst (pc' := 108) dX11_fits_107 rfl (r32_c rfl) ?_
          refine go_goto (t := 112) dX11_fits_108 rfl ?_
          cases h
          exact k12J

set_option maxRecDepth 10000 in
theorem l_M_fits (d : Nat) (n e : Nat) (σ : Hp) (x1 : Int) (x2 : Int) (x3 : Int) (x4 : Int) (r : Int) (h : f_M_fits σ x1 x2 x3 x4 = some r) : Ev (d + 4) 225 [pvR 11 0 129, pvI x1, pvI x2, pvI x3, pvI x4] (true, n, e, σ) (0, some (pvI r), true, n, e, σ) := by
  unfold f_M_fits at h
  refine Ev.of mtE225 rfl rfl rfl rfl ?_
  show Go none (Ev (d + 3)) mt225 0 [some (pvR 11 0 129), some (pvI x1), some (pvI x2), some (pvI x3), some (pvI x4), none, none] [] (true, n, e, σ) (0, some (pvI r), true, n, e, σ)
  refine go_aload_n (pc' := 1) dX11_fits_0 rfl rfl (Nat.le_of_ble_eq_true rfl) ?_
  refine go_iload_n (pc' := 2) dX11_fits_1 rfl rfl ?_
  refine go_iload_n (pc' := 3) dX11_fits_2 rfl rfl ?_
  obtain ⟨v1, k2, h⟩ := bd h
  have k2 := l_M_isPlain (d + 2) n e σ x1 x3 _ k2
  refine go_call (kc := 173) (Mc := mt173) (v := some (pvI v1)) (w' := (true, n, e, σ)) (pc' := 6) (st' := [pvI v1]) [pvR 11 0 129, pvI x1, pvI x3] [] (Or.inl rfl) dX11_fits_3 rfl rm_11_180 mtE173 rfl rfl rfl (Nat.le_of_ble_eq_true rfl) (Or.inr ⟨_, _, 129, rfl, Or.inl rfl⟩) k2 rfl ?_
  refine go_if_eq (t := 18) (pc' := 9) dX11_fits_6 rfl rfl (fun c46 => ?_) (fun c46 => ?_)
  · rw [if_pos (show v1 = 0 from c46)] at h
    refine go_iconst (pc' := 19) dX11_fits_18 rfl (r32_c rfl) ?_
    obtain ⟨g3, h⟩ := gd h
    cases h
    exact go_zret dX11_fits_19 rfl g3 rfl
  · rw [if_neg (show ¬ (v1 = 0) from c46)] at h
    refine go_aload_n (pc' := 10) dX11_fits_9 rfl rfl (Nat.le_of_ble_eq_true rfl) ?_
    refine go_iload_n (pc' := 11) dX11_fits_10 rfl rfl ?_
    refine go_iload_n (pc' := 12) dX11_fits_11 rfl rfl ?_
    obtain ⟨v4, k5, h⟩ := bd h
    have k5 := l_M_seen (d + 0) n e σ x1 x3 _ k5
    refine go_call (kc := 186) (Mc := mt186) (v := some (pvI v4)) (w' := (true, n, e, σ)) (pc' := 15) (st' := [pvI v4]) [pvR 11 0 129, pvI x1, pvI x3] [] (Or.inl rfl) dX11_fits_12 rfl rm_11_208 mtE186 rfl rfl rfl (Nat.le_of_ble_eq_true rfl) (Or.inr ⟨_, _, 129, rfl, Or.inl rfl⟩) k5 rfl ?_
    refine go_if_ne (t := 20) (pc' := 18) dX11_fits_15 rfl rfl (fun c45 => ?_) (fun c45 => ?_)
    · rw [if_pos (show v4 ≠ 0 from c45)] at h
      refine go_iload_n (pc' := 21) dX11_fits_20 rfl rfl ?_
      refine go_if_ne (t := 45) (pc' := 24) dX11_fits_21 rfl rfl (fun c43 => ?_) (fun c43 => ?_)
      · rw [if_pos (show x2 ≠ 0 from c43)] at h
        refine go_iload_n (pc' := 46) dX11_fits_45 rfl rfl ?_
        refine go_iconst (pc' := 47) dX11_fits_46 rfl (r32_c rfl) ?_
        refine go_icmp_ne (t := 67) (pc' := 50) dX11_fits_47 rfl rfl (fun c35 => ?_) (fun c35 => ?_)
        · rw [if_pos (show x2 ≠ 2 from c35)] at h
          refine go_iconst (pc' := 68) dX11_fits_67 rfl (r32_c rfl) ?_
          refine go_istore (L' := [some (pvR 11 0 129), some (pvI x1), some (pvI x2), some (pvI x3), some (pvI x4), some (pvI 1), none]) (pc' := 70) dX11_fits_68 rfl (Nat.le_of_ble_eq_true rfl) rfl ?_
          refine go_iconst (pc' := 71) dX11_fits_70 rfl (r32_c rfl) ?_
          refine go_istore (L' := [some (pvR 11 0 129), some (pvI x1), some (pvI x2), some (pvI x3), some (pvI x4), some (pvI 1), some (pvI 1)]) (pc' := 73) dX11_fits_71 rfl (Nat.le_of_ble_eq_true rfl) rfl ?_
          obtain ⟨j20, k21, h⟩ := bd h
          refine l_M_fits_73 d n e σ x1 x2 x3 x4 zFuel 1 1 _ k21 ?_
          refine go_iload (pc' := 123) dX11_fits_121 rfl rfl ?_
          obtain ⟨j22, k23, h⟩ := bd h
          have k23J : Go none (Ev (d + 3)) mt225 145 [some (pvR 11 0 129), some (pvI x1), some (pvI x2), some (pvI x3), some (pvI x4), some (pvI j20.1), some (pvI j20.2)] [pvI j22] (true, n, e, σ) (0, some (pvI r), true, n, e, σ) := by
            obtain ⟨g27, h⟩ := gd h
            cases h
            exact go_zret dX11_fits_145 rfl g27 rfl
          clear h
          have h := k23
          refine go_if_eq (t := 144) (pc' := 126) dX11_fits_123 rfl rfl (fun c28 => ?_) (fun c28 => ?_)
          · rw [if_pos (show j20.1 = 0 from c28)] at h
            refine go_iconst (pc' := 145) dX11_fits_144 rfl (r32_c rfl) ?_
            cases h
            exact k23J
          · rw [if_neg (show ¬ (j20.1 = 0) from c28)] at h
            refine go_aload_n (pc' := 127) dX11_fits_126 rfl rfl (Nat.le_of_ble_eq_true rfl) ?_
            refine go_iload_n (pc' := 128) dX11_fits_127 rfl rfl ?_
            refine go_iload_n (pc' := 129) dX11_fits_128 rfl rfl ?_
            refine go_iload (pc' := 131) dX11_fits_129 rfl rfl ?_
            refine go_bipush (pc' := 133) dX11_fits_131 rfl (r32_c rfl) (by decide) ?_
            obtain ⟨v24, k25, h⟩ := bd h
            have k25 := l_M_weightTo (d + 1) n e σ x1 x3 x4 99 _ k25
            refine go_call (kc := 204) (Mc := mt204) (v := some (pvI v24)) (w' := (true, n, e, σ)) (pc' := 136) (st' := [pvI v24]) [pvR 11 0 129, pvI x1, pvI x3, pvI x4, pvI 99] [] (Or.inl rfl) dX11_fits_133 rfl rm_11_253 mtE204 rfl rfl rfl (Nat.le_of_ble_eq_true rfl) (Or.inr ⟨_, _, 129, rfl, Or.inl rfl⟩) k25 rfl ?_
            refine go_iconst (pc' := 137) dX11_fits_136 rfl (r32_c rfl) ?_
            refine go_icmp_eq (t := 144) (pc' := 140) dX11_fits_137 rfl rfl (fun c26 => ?_) (fun c26 => ?_)
            · rw [if_pos (show v24 = 2 from c26)] at h
              refine go_iconst (pc' := 145) dX11_fits_144 rfl (r32_c rfl) ?_
              cases h
              exact k23J
            · rw [if_neg (show ¬ (v24 = 2) from c26)] at h
              refine go_iconst (pc' := 141) dX11_fits_140 rfl (r32_c rfl) ?_
              refine go_goto (t := 145) dX11_fits_141 rfl ?_
              cases h
              exact k23J
        · rw [if_neg (show ¬ (x2 ≠ 2) from c35)] at h
          refine go_aload_n (pc' := 51) dX11_fits_50 rfl rfl (Nat.le_of_ble_eq_true rfl) ?_
          refine go_iload_n (pc' := 52) dX11_fits_51 rfl rfl ?_
          refine go_iload_n (pc' := 53) dX11_fits_52 rfl rfl ?_
          obtain ⟨v29, k30, h⟩ := bd h
          have k30 := l_M_depth (d + 0) n e σ x1 x3 _ k30
          refine go_call (kc := 185) (Mc := mt185) (v := some (pvI v29)) (w' := (true, n, e, σ)) (pc' := 56) (st' := [pvI v29]) [pvR 11 0 129, pvI x1, pvI x3] [] (Or.inl rfl) dX11_fits_53 rfl rm_11_205 mtE185 rfl rfl rfl (Nat.le_of_ble_eq_true rfl) (Or.inr ⟨_, _, 129, rfl, Or.inl rfl⟩) k30 rfl ?_
          refine go_iload (pc' := 58) dX11_fits_56 rfl rfl ?_
          obtain ⟨j31, k32, h⟩ := bd h
          have k32J : Go none (Ev (d + 3)) mt225 66 [some (pvR 11 0 129), some (pvI x1), some (pvI x2), some (pvI x3), some (pvI x4), none, none] [pvI j31] (true, n, e, σ) (0, some (pvI r), true, n, e, σ) := by
            obtain ⟨g33, h⟩ := gd h
            cases h
            exact go_zret dX11_fits_66 rfl g33 rfl
          clear h
          have h := k32
          refine go_icmp_ne (t := 65) (pc' := 61) dX11_fits_58 rfl rfl (fun c34 => ?_) (fun c34 => ?_)
          · rw [if_pos (show v29 ≠ x4 from c34)] at h
            refine go_iconst (pc' := 66) dX11_fits_65 rfl (r32_c rfl) ?_
            cases h
            exact k32J
          · rw [if_neg (show ¬ (v29 ≠ x4) from c34)] at h
            refine go_iconst (pc' := 62) dX11_fits_61 rfl (r32_c rfl) ?_
            refine go_goto (t := 66) dX11_fits_62 rfl ?_
            cases h
            exact k32J
      · rw [if_neg (show ¬ (x2 ≠ 0) from c43)] at h
        refine go_iload_n (pc' := 25) dX11_fits_24 rfl rfl ?_
        obtain ⟨j36, k37, h⟩ := bd h
        have k37J : Go none (Ev (d + 3)) mt225 44 [some (pvR 11 0 129), some (pvI x1), some (pvI x2), some (pvI x3), some (pvI x4), none, none] [pvI j36] (true, n, e, σ) (0, some (pvI r), true, n, e, σ) := by
          obtain ⟨g41, h⟩ := gd h
          cases h
          exact go_zret dX11_fits_44 rfl g41 rfl
        clear h
        have h := k37
        refine go_if_le (t := 43) (pc' := 28) dX11_fits_25 rfl rfl (fun c42 => ?_) (fun c42 => ?_)
        · rw [if_pos (show x3 ≤ 0 from c42)] at h
          refine go_iconst (pc' := 44) dX11_fits_43 rfl (r32_c rfl) ?_
          cases h
          exact k37J
        · rw [if_neg (show ¬ (x3 ≤ 0) from c42)] at h
          refine go_aload_n (pc' := 29) dX11_fits_28 rfl rfl (Nat.le_of_ble_eq_true rfl) ?_
          refine go_iload_n (pc' := 30) dX11_fits_29 rfl rfl ?_
          refine go_iload_n (pc' := 31) dX11_fits_30 rfl rfl ?_
          obtain ⟨v38, k39, h⟩ := bd h
          have k39 := l_M_now (d + 1) n e σ x1 x3 _ k39
          refine go_call (kc := 181) (Mc := mt181) (v := some (pvI v38)) (w' := (true, n, e, σ)) (pc' := 34) (st' := [pvI v38]) [pvR 11 0 129, pvI x1, pvI x3] [] (Or.inl rfl) dX11_fits_31 rfl rm_11_173 mtE181 rfl rfl rfl (Nat.le_of_ble_eq_true rfl) (Or.inr ⟨_, _, 129, rfl, Or.inl rfl⟩) k39 rfl ?_
          refine go_iload (pc' := 36) dX11_fits_34 rfl rfl ?_
          refine go_icmp_ne (t := 43) (pc' := 39) dX11_fits_36 rfl rfl (fun c40 => ?_) (fun c40 => ?_)
          · rw [if_pos (show v38 ≠ x4 from c40)] at h
            refine go_iconst (pc' := 44) dX11_fits_43 rfl (r32_c rfl) ?_
            cases h
            exact k37J
          · rw [if_neg (show ¬ (v38 ≠ x4) from c40)] at h
            refine go_iconst (pc' := 40) dX11_fits_39 rfl (r32_c rfl) ?_
            refine go_goto (t := 44) dX11_fits_40 rfl ?_
            cases h
            exact k37J
    · rw [if_neg (show ¬ (v4 ≠ 0) from c45)] at h
      refine go_iconst (pc' := 19) dX11_fits_18 rfl (r32_c rfl) ?_
      obtain ⟨g44, h⟩ := gd h
      cases h
      exact go_zret dX11_fits_19 rfl g44 rfl

set_option maxRecDepth 10000 in
theorem l_M_with (d : Nat) (n e : Nat) (σ : Hp) (x1 : Int) (x2 : Int) (x3 : Int) (r : Int × Hp) (h : f_M_with σ x1 x2 x3 = some r) : Ev (d + 282) 227 [pvR 11 0 129, pvI x1, pvI x2, pvI x3] (true, n, e, σ) (0, some (pvL r.1), true, n, e, r.2) := by
  unfold f_M_with at h
  refine Ev.of mtE227 rfl rfl rfl rfl ?_
  show Go none (Ev (d + 281)) mt227 0 [some (pvR 11 0 129), some (pvI x1), some (pvI x2), some (pvI x3)] [] (true, n, e, σ) (0, some (pvL r.1), true, n, e, r.2)
  refine go_aload_n (pc' := 1) dX11_with_0 rfl rfl (Nat.le_of_ble_eq_true rfl) ?_
  refine go_iload_n (pc' := 2) dX11_with_1 rfl rfl ?_
  obtain ⟨j1, k2, h⟩ := bd h
  have k2J : Go none (Ev (d + 281)) mt227 15 [some (pvR 11 0 129), some (pvI x1), some (pvI x2), some (pvI x3)] [pvI j1, pvR 11 0 129] (true, n, e, σ) (0, some (pvL r.1), true, n, e, r.2) := by
    refine go_iload_n (pc' := 16) dX11_with_15 rfl rfl ?_
    refine go_iconst (pc' := 17) dX11_with_16 rfl (r32_c rfl) ?_
    obtain ⟨j4, k5, h⟩ := bd h
    have k5J : Go none (Ev (d + 281)) mt227 30 [some (pvR 11 0 129), some (pvI x1), some (pvI x2), some (pvI x3)] [pvI j4, pvI j1, pvR 11 0 129] (true, n, e, σ) (0, some (pvL r.1), true, n, e, r.2) := by
      refine go_iload_n (pc' := 31) dX11_with_30 rfl rfl ?_
      refine go_iconst (pc' := 32) dX11_with_31 rfl (r32_c rfl) ?_
      obtain ⟨j7, k8, h⟩ := bd h
      have k8J : Go none (Ev (d + 281)) mt227 45 [some (pvR 11 0 129), some (pvI x1), some (pvI x2), some (pvI x3)] [pvI j7, pvI j4, pvI j1, pvR 11 0 129] (true, n, e, σ) (0, some (pvL r.1), true, n, e, r.2) := by
        refine go_iload_n (pc' := 46) dX11_with_45 rfl rfl ?_
        obtain ⟨v10, k11, h⟩ := bd h
        have k11 := l_M_ask (d + 0) n e σ j1 j4 j7 x3 _ k11
        refine go_call (kc := 220) (Mc := mt220) (v := some (pvL v10.1)) (w' := (true, n, e, v10.2)) (pc' := 49) (st' := [pvL v10.1]) [pvR 11 0 129, pvI j1, pvI j4, pvI j7, pvI x3] [] (Or.inl rfl) dX11_with_46 rfl rm_11_324 mtE220 rfl rfl rfl (Nat.le_of_ble_eq_true rfl) (Or.inr ⟨_, _, 129, rfl, Or.inl rfl⟩) k11 rfl ?_
        cases h
        exact go_lret dX11_with_49 rfl rfl
      clear h
      have h := k8
      refine go_icmp_ne (t := 39) (pc' := 35) dX11_with_32 rfl rfl (fun c12 => ?_) (fun c12 => ?_)
      · rw [if_pos (show x1 ≠ 2 from c12)] at h
        refine go_aload_n (pc' := 40) dX11_with_39 rfl rfl (Nat.le_of_ble_eq_true rfl) ?_
        refine go_getR (k' := 12) (L0 := 3) (P' := 163) (pc' := 43) dX11_with_40 rfl rf_11_119 rfl rfl (by omega) ?_
        refine go_iconst (pc' := 44) dX11_with_43 rfl (r32_c rfl) ?_
        obtain ⟨g9, h⟩ := gd h
        refine go_iald (pc' := 45) dX11_with_44 rfl g9 ?_
        cases h
        exact k8J
      · rw [if_neg (show ¬ (x1 ≠ 2) from c12)] at h
        refine go_iload_n (pc' := 36) dX11_with_35 rfl rfl ?_
        refine go_goto (t := 45) dX11_with_36 rfl ?_
        cases h
        exact k8J
    clear h
    have h := k5
    refine go_icmp_ne (t := 24) (pc' := 20) dX11_with_17 rfl rfl (fun c13 => ?_) (fun c13 => ?_)
    · rw [if_pos (show x1 ≠ 1 from c13)] at h
      refine go_aload_n (pc' := 25) dX11_with_24 rfl rfl (Nat.le_of_ble_eq_true rfl) ?_
      refine go_getR (k' := 12) (L0 := 3) (P' := 163) (pc' := 28) dX11_with_25 rfl rf_11_119 rfl rfl (by omega) ?_
      refine go_iconst (pc' := 29) dX11_with_28 rfl (r32_c rfl) ?_
      obtain ⟨g6, h⟩ := gd h
      refine go_iald (pc' := 30) dX11_with_29 rfl g6 ?_
      cases h
      exact k5J
    · rw [if_neg (show ¬ (x1 ≠ 1) from c13)] at h
      refine go_iload_n (pc' := 21) dX11_with_20 rfl rfl ?_
      refine go_goto (t := 30) dX11_with_21 rfl ?_
      cases h
      exact k5J
  clear h
  have h := k2
  refine go_if_ne (t := 9) (pc' := 5) dX11_with_2 rfl rfl (fun c14 => ?_) (fun c14 => ?_)
  · rw [if_pos (show x1 ≠ 0 from c14)] at h
    refine go_aload_n (pc' := 10) dX11_with_9 rfl rfl (Nat.le_of_ble_eq_true rfl) ?_
    refine go_getR (k' := 12) (L0 := 3) (P' := 163) (pc' := 13) dX11_with_10 rfl rf_11_119 rfl rfl (by omega) ?_
    refine go_iconst (pc' := 14) dX11_with_13 rfl (r32_c rfl) ?_
    obtain ⟨g3, h⟩ := gd h
    refine go_iald (pc' := 15) dX11_with_14 rfl g3 ?_
    cases h
    exact k2J
  · rw [if_neg (show ¬ (x1 ≠ 0) from c14)] at h
    refine go_iload_n (pc' := 6) dX11_with_5 rfl rfl ?_
    refine go_goto (t := 15) dX11_with_6 rfl ?_
    cases h
    exact k2J

set_option maxRecDepth 10000 in
theorem l_M_tops_12 (d : Nat) (n : Nat) (e : Nat) (σ : Hp) (x1 : Int) (x2 : Int) (x3 : Int) (x4 : Int) {out : Out} : ∀ (F : Nat) (y1 : Int) (y2 : Int) (j8 : Int × Int), f_M_tops_12 σ x1 x2 F y1 y2 = some j8 → Go none (Ev (d + 282)) mt226 43 [some (pvR 11 0 129), some (pvI x1), some (pvI x2), some (pvI x3), some (pvI x4), some (pvI 0), some (pvI 0), some (pvI j8.1), some (pvI j8.2), none, none, none, none, none, none] [] (true, n, e, σ) out → Go none (Ev (d + 282)) mt226 12 [some (pvR 11 0 129), some (pvI x1), some (pvI x2), some (pvI x3), some (pvI x4), some (pvI 0), some (pvI 0), some (pvI y1), some (pvI y2), none, none, none, none, none, none] [] (true, n, e, σ) out := by
  intro F
  induction F with
  | zero =>
    intro _ _ _ h
    intro _
    rw [f_M_tops_12] at h
    cases h
  | succ F ih =>
    intro y1 y2 j8 h hx
    rw [f_M_tops_12] at h
    refine go_iload (pc' := 14) dX11_tops_12 rfl rfl ?_
    refine go_iload_n (pc' := 15) dX11_tops_14 rfl rfl ?_
    refine go_icmp_ge (t := 43) (pc' := 18) dX11_tops_15 rfl rfl (fun c7 => ?_) (fun c7 => ?_)
    · rw [if_pos (show x2 ≤ y2 from c7)] at h
      cases h
      exact hx
    · rw [if_neg (show ¬ (x2 ≤ y2) from c7)] at h
      refine go_iload (pc' := 20) dX11_tops_18 rfl rfl ?_
      refine go_iconst (pc' := 21) dX11_tops_20 rfl (r32_c rfl) ?_
      refine go_aload_n (pc' := 22) dX11_tops_21 rfl rfl (Nat.le_of_ble_eq_true rfl) ?_
      refine go_getR (k' := 12) (L0 := 36) (P' := 164) (pc' := 25) dX11_tops_22 rfl rf_11_122 rfl rfl (by omega) ?_
      refine go_bipush (pc' := 27) dX11_tops_25 rfl (r32_c rfl) (by decide) ?_
      refine go_iload_n (pc' := 28) dX11_tops_27 rfl rfl ?_
      obtain ⟨g3, h⟩ := gd h
      refine go_imul (pc' := 29) dX11_tops_28 rfl g3 ?_
      refine go_iload (pc' := 31) dX11_tops_29 rfl rfl ?_
      obtain ⟨g4, h⟩ := gd h
      refine go_iadd (pc' := 32) dX11_tops_31 rfl g4 ?_
      obtain ⟨g5, h⟩ := gd h
      refine go_iald (pc' := 33) dX11_tops_32 rfl g5 ?_
      refine go_ishl (pc' := 34) dX11_tops_33 rfl ?_
      refine go_ior (pc' := 35) dX11_tops_34 rfl ?_
      refine go_istore (L' := [some (pvR 11 0 129), some (pvI x1), some (pvI x2), some (pvI x3), some (pvI x4), some (pvI 0), some (pvI 0), some (pvI (ior y1 (ishl 1 (σ 164 ((12 * x1) + y2))))), some (pvI y2), none, none, none, none, none, none]) (pc' := 37) dX11_tops_35 rfl (Nat.le_of_ble_eq_true rfl) rfl ?_
      obtain ⟨g6, h⟩ := gd h
      refine go_iinc (L' := [some (pvR 11 0 129), some (pvI x1), some (pvI x2), some (pvI x3), some (pvI x4), some (pvI 0), some (pvI 0), some (pvI (ior y1 (ishl 1 (σ 164 ((12 * x1) + y2))))), some (pvI (y2 + 1)), none, none, none, none, none, none]) (pc' := 40) dX11_tops_37 rfl rfl g6 rfl ?_
      refine go_goto (t := 12) dX11_tops_40 rfl ?_
      exact ih (ior y1 (ishl 1 (σ 164 ((12 * x1) + y2)))) (y2 + 1) _ h hx

set_option maxRecDepth 10000 in
theorem l_M_tops_62 (d : Nat) (n : Nat) (e : Nat) (x1 : Int) (x2 : Int) (x3 : Int) (x4 : Int) (j9 : Int × Int) (y11 : Int) (y12 : Int) {out : Out} : ∀ (F : Nat) (y15 : Int) (y16 : Int) (y17 : Int) (σ18 : Hp) (j38 : Int × Int × Int × Hp), f_M_tops_62 x1 x3 j9 y12 F y15 y16 y17 σ18 = some j38 → Go none (Ev (d + 282)) mt226 167 [some (pvR 11 0 129), some (pvI x1), some (pvI x2), some (pvI x3), some (pvI x4), some (pvI y11), some (pvI y12), some (pvI j9.1), some (pvI j38.1), some (pvL j38.2.1), none, some (pvI j38.2.2.1), none, none, none] [] (true, n, e, j38.2.2.2) out → Go none (Ev (d + 282)) mt226 62 [some (pvR 11 0 129), some (pvI x1), some (pvI x2), some (pvI x3), some (pvI x4), some (pvI y11), some (pvI y12), some (pvI j9.1), some (pvI y15), some (pvL y16), none, some (pvI y17), none, none, none] [] (true, n, e, σ18) out := by
  intro F
  induction F with
  | zero =>
    intro _ _ _ _ _ h
    intro _
    rw [f_M_tops_62] at h
    cases h
  | succ F ih =>
    intro y15 y16 y17 σ18 j38 h hx
    rw [f_M_tops_62] at h
    refine go_iload (pc' := 64) dX11_tops_62 rfl rfl ?_
    refine go_if_lt (t := 167) (pc' := 67) dX11_tops_64 rfl rfl (fun c37 => ?_) (fun c37 => ?_)
    · rw [if_pos (show y17 < 0 from c37)] at h
      cases h
      exact hx
    · rw [if_neg (show ¬ (y17 < 0) from c37)] at h
      refine go_iload (pc' := 69) dX11_tops_67 rfl rfl ?_
      refine go_iload (pc' := 71) dX11_tops_69 rfl rfl ?_
      refine go_ishr (pc' := 72) dX11_tops_71 rfl ?_
      refine go_iconst (pc' := 73) dX11_tops_72 rfl (r32_c rfl) ?_
      refine go_iand (pc' := 74) dX11_tops_73 rfl ?_
      refine go_iconst (pc' := 75) dX11_tops_74 rfl (r32_c rfl) ?_
      obtain ⟨j19, k20, h⟩ := bd h
      have k20J : Go none (Ev (d + 282)) mt226 102 [some (pvR 11 0 129), some (pvI x1), some (pvI x2), some (pvI x3), some (pvI x4), some (pvI y11), some (pvI y12), some (pvI j9.1), some (pvI y15), some (pvL y16), none, some (pvI y17), none, none, none] [pvL j19.1] (true, n, e, j19.2) out := by
        refine go_lstore (L' := [some (pvR 11 0 129), some (pvI x1), some (pvI x2), some (pvI x3), some (pvI x4), some (pvI y11), some (pvI y12), some (pvI j9.1), some (pvI y15), some (pvL y16), none, some (pvI y17), some (pvL j19.1), none, none]) (pc' := 104) dX11_tops_102 rfl (Nat.le_of_ble_eq_true rfl) rfl ?_
        refine go_lload (pc' := 106) dX11_tops_104 rfl rfl ?_
        refine go_ldc2 (pc' := 109) dX11_tops_106 rfl (r64_c rfl) rc_11_262 ?_
        refine go_lcmp (pc' := 110) dX11_tops_109 rfl ?_
        obtain ⟨j24, k25, h⟩ := bd h
        have k25J : Go none (Ev (d + 282)) mt226 131 [some (pvR 11 0 129), some (pvI x1), some (pvI x2), some (pvI x3), some (pvI x4), some (pvI y11), some (pvI y12), some (pvI j9.1), some (pvI y15), some (pvL y16), none, some (pvI y17), some (pvL j19.1), none, none] [pvI j24] (true, n, e, j19.2) out := by
          refine go_istore (L' := [some (pvR 11 0 129), some (pvI x1), some (pvI x2), some (pvI x3), some (pvI x4), some (pvI y11), some (pvI y12), some (pvI j9.1), some (pvI y15), some (pvL y16), none, some (pvI y17), some (pvL j19.1), none, some (pvI j24)]) (pc' := 133) dX11_tops_131 rfl (Nat.le_of_ble_eq_true rfl) rfl ?_
          refine go_iload (pc' := 135) dX11_tops_133 rfl rfl ?_
          obtain ⟨j28, k29, h⟩ := bd h
          have k29J : Go none (Ev (d + 282)) mt226 145 [some (pvR 11 0 129), some (pvI x1), some (pvI x2), some (pvI x3), some (pvI x4), some (pvI y11), some (pvI y12), some (pvI j9.1), some (pvI y15), some (pvL y16), none, some (pvI y17), some (pvL j19.1), none, some (pvI j24)] [pvI j28] (true, n, e, j19.2) out := by
            refine go_istore (L' := [some (pvR 11 0 129), some (pvI x1), some (pvI x2), some (pvI x3), some (pvI x4), some (pvI y11), some (pvI y12), some (pvI j9.1), some (pvI j28), some (pvL y16), none, some (pvI y17), some (pvL j19.1), none, some (pvI j24)]) (pc' := 147) dX11_tops_145 rfl (Nat.le_of_ble_eq_true rfl) rfl ?_
            refine go_iload (pc' := 149) dX11_tops_147 rfl rfl ?_
            obtain ⟨j30, k31, h⟩ := bd h
            have k31J : Go none (Ev (d + 282)) mt226 159 [some (pvR 11 0 129), some (pvI x1), some (pvI x2), some (pvI x3), some (pvI x4), some (pvI y11), some (pvI y12), some (pvI j9.1), some (pvI j28), some (pvL y16), none, some (pvI y17), some (pvL j19.1), none, some (pvI j24)] [pvL j30] (true, n, e, j19.2) out := by
              refine go_lstore (L' := [some (pvR 11 0 129), some (pvI x1), some (pvI x2), some (pvI x3), some (pvI x4), some (pvI y11), some (pvI y12), some (pvI j9.1), some (pvI j28), some (pvL j30), none, some (pvI y17), some (pvL j19.1), none, some (pvI j24)]) (pc' := 161) dX11_tops_159 rfl (Nat.le_of_ble_eq_true rfl) rfl ?_
              obtain ⟨g32, h⟩ := gd h
              refine go_iinc (L' := [some (pvR 11 0 129), some (pvI x1), some (pvI x2), some (pvI x3), some (pvI x4), some (pvI y11), some (pvI y12), some (pvI j9.1), some (pvI j28), some (pvL j30), none, some (pvI (y17 + (-1))), some (pvL j19.1), none, some (pvI j24)]) (pc' := 164) dX11_tops_161 rfl rfl g32 rfl ?_
              refine go_goto (t := 62) dX11_tops_164 rfl ?_
              exact go_sub (ih j28 j30 (y17 + (-1)) j19.2 _ h hx) ⟨Or.inr rfl, Or.inr rfl, Or.inr rfl, Or.inr rfl, Or.inr rfl, Or.inr rfl, Or.inr rfl, Or.inr rfl, Or.inr rfl, Or.inr rfl, Or.inr rfl, Or.inr rfl, Or.inl rfl, Or.inr rfl, Or.inl rfl, trivial⟩
            clear h
            have h := k31
            refine go_if_eq (t := 157) (pc' := 152) dX11_tops_149 rfl rfl (fun c33 => ?_) (fun c33 => ?_)
            · rw [if_pos (show j24 = 0 from c33)] at h
              refine go_lload (pc' := 159) dX11_tops_157 rfl rfl ?_
              cases h
              exact k31J
            · rw [if_neg (show ¬ (j24 = 0) from c33)] at h
              refine go_lload (pc' := 154) dX11_tops_152 rfl rfl ?_
              refine go_goto (t := 159) dX11_tops_154 rfl ?_
              cases h
              exact k31J
          clear h
          have h := k29
          refine go_if_eq (t := 143) (pc' := 138) dX11_tops_135 rfl rfl (fun c34 => ?_) (fun c34 => ?_)
          · rw [if_pos (show j24 = 0 from c34)] at h
            refine go_iload (pc' := 145) dX11_tops_143 rfl rfl ?_
            cases h
            exact k29J
          · rw [if_neg (show ¬ (j24 = 0) from c34)] at h
            refine go_iload (pc' := 140) dX11_tops_138 rfl rfl ?_
            refine go_goto (t := 145) dX11_tops_140 rfl ?_
            cases h
            exact k29J
        clear h
        have h := k25
        refine go_if_eq (t := 130) (pc' := 113) dX11_tops_110 rfl rfl (fun c35 => ?_) (fun c35 => ?_)
        · rw [if_pos (show (lcm j19.1 (-9223372036854775808)) = 0 from c35)] at h
          refine go_iconst (pc' := 131) dX11_tops_130 rfl (r32_c rfl) ?_
          cases h
          exact k25J
        · rw [if_neg (show ¬ ((lcm j19.1 (-9223372036854775808)) = 0) from c35)] at h
          refine go_iload (pc' := 115) dX11_tops_113 rfl rfl ?_
          refine go_if_lt (t := 126) (pc' := 118) dX11_tops_115 rfl rfl (fun c27 => ?_) (fun c27 => ?_)
          · rw [if_pos (show y15 < 0 from c27)] at h
            refine go_iconst (pc' := 127) dX11_tops_126 rfl (r32_c rfl) ?_
            refine go_goto (t := 131) dX11_tops_127 rfl ?_
            cases h
            exact k25J
          · rw [if_neg (show ¬ (y15 < 0) from c27)] at h
            refine go_lload (pc' := 120) dX11_tops_118 rfl rfl ?_
            refine go_lload (pc' := 122) dX11_tops_120 rfl rfl ?_
            refine go_lcmp (pc' := 123) dX11_tops_122 rfl ?_
            refine go_if_lt (t := 130) (pc' := 126) dX11_tops_123 rfl rfl (fun c26 => ?_) (fun c26 => ?_)
            · rw [if_pos (show (lcm j19.1 y16) < 0 from c26)] at h
              refine go_iconst (pc' := 131) dX11_tops_130 rfl (r32_c rfl) ?_
              cases h
              exact k25J
            · rw [if_neg (show ¬ ((lcm j19.1 y16) < 0) from c26)] at h
              refine go_iconst (pc' := 127) dX11_tops_126 rfl (r32_c rfl) ?_
              refine go_goto (t := 131) dX11_tops_127 rfl ?_
              cases h
              exact k25J
      clear h
      have h := k20
      refine go_icmp_ne (t := 99) (pc' := 78) dX11_tops_75 rfl rfl (fun c36 => ?_) (fun c36 => ?_)
      · rw [if_pos (show (iand (ishr j9.1 y17) 1) ≠ 1 from c36)] at h
        refine go_ldc2 (pc' := 102) dX11_tops_99 rfl (r64_c rfl) rc_11_262 ?_
        cases h
        exact k20J
      · rw [if_neg (show ¬ ((iand (ishr j9.1 y17) 1) ≠ 1) from c36)] at h
        refine go_iload (pc' := 80) dX11_tops_78 rfl rfl ?_
        refine go_iload (pc' := 82) dX11_tops_80 rfl rfl ?_
        refine go_ishr (pc' := 83) dX11_tops_82 rfl ?_
        refine go_iconst (pc' := 84) dX11_tops_83 rfl (r32_c rfl) ?_
        refine go_iand (pc' := 85) dX11_tops_84 rfl ?_
        refine go_if_ne (t := 99) (pc' := 88) dX11_tops_85 rfl rfl (fun c23 => ?_) (fun c23 => ?_)
        · rw [if_pos (show (iand (ishr y12 y17) 1) ≠ 0 from c23)] at h
          refine go_ldc2 (pc' := 102) dX11_tops_99 rfl (r64_c rfl) rc_11_262 ?_
          cases h
          exact k20J
        · rw [if_neg (show ¬ ((iand (ishr y12 y17) 1) ≠ 0) from c23)] at h
          refine go_aload_n (pc' := 89) dX11_tops_88 rfl rfl (Nat.le_of_ble_eq_true rfl) ?_
          refine go_iload_n (pc' := 90) dX11_tops_89 rfl rfl ?_
          refine go_iload (pc' := 92) dX11_tops_90 rfl rfl ?_
          refine go_iload_n (pc' := 93) dX11_tops_92 rfl rfl ?_
          obtain ⟨v21, k22, h⟩ := bd h
          have k22 := l_M_with (d + 0) n e σ18 x1 y17 x3 _ k22
          refine go_call (kc := 227) (Mc := mt227) (v := some (pvL v21.1)) (w' := (true, n, e, v21.2)) (pc' := 96) (st' := [pvL v21.1]) [pvR 11 0 129, pvI x1, pvI y17, pvI x3] [] (Or.inl rfl) dX11_tops_93 rfl rm_11_335 mtE227 rfl rfl rfl (Nat.le_of_ble_eq_true rfl) (Or.inr ⟨_, _, 129, rfl, Or.inl rfl⟩) k22 rfl ?_
          refine go_goto (t := 102) dX11_tops_96 rfl ?_
          cases h
          exact k20J

set_option maxRecDepth 10000 in
theorem l_M_tops_43 (d : Nat) (n : Nat) (e : Nat) (x1 : Int) (x2 : Int) (x3 : Int) (x4 : Int) (j9 : Int × Int) : ∀ (F : Nat) (y11 : Int) (y12 : Int) (y13 : Int) (σ14 : Hp) (r : Int × Hp), f_M_tops_43 x1 x3 x4 j9 F y11 y12 y13 σ14 = some r → Go none (Ev (d + 282)) mt226 43 [some (pvR 11 0 129), some (pvI x1), some (pvI x2), some (pvI x3), some (pvI x4), some (pvI y11), some (pvI y12), some (pvI j9.1), some (pvI y13), none, none, none, none, none, none] [] (true, n, e, σ14) (0, some (pvI r.1), true, n, e, r.2) := by
  intro F
  induction F with
  | zero =>
    intro _ _ _ _ _ h
    rw [f_M_tops_43] at h
    cases h
  | succ F ih =>
    intro y11 y12 y13 σ14 r h
    rw [f_M_tops_43] at h
    refine go_iload (pc' := 45) dX11_tops_43 rfl rfl ?_
    refine go_iload (pc' := 47) dX11_tops_45 rfl rfl ?_
    refine go_icmp_ge (t := 204) (pc' := 50) dX11_tops_47 rfl rfl (fun c46 => ?_) (fun c46 => ?_)
    · rw [if_pos (show x4 ≤ y11 from c46)] at h
      refine go_iload (pc' := 206) dX11_tops_204 rfl rfl ?_
      cases h
      exact go_iret dX11_tops_206 rfl rfl
    · rw [if_neg (show ¬ (x4 ≤ y11) from c46)] at h
      refine go_iconst (pc' := 51) dX11_tops_50 rfl (r32_c rfl) ?_
      refine go_istore (L' := [some (pvR 11 0 129), some (pvI x1), some (pvI x2), some (pvI x3), some (pvI x4), some (pvI y11), some (pvI y12), some (pvI j9.1), some (pvI (-1)), none, none, none, none, none, none]) (pc' := 53) dX11_tops_51 rfl (Nat.le_of_ble_eq_true rfl) rfl ?_
      refine go_ldc2 (pc' := 56) dX11_tops_53 rfl (r64_c rfl) rc_11_262 ?_
      refine go_lstore (L' := [some (pvR 11 0 129), some (pvI x1), some (pvI x2), some (pvI x3), some (pvI x4), some (pvI y11), some (pvI y12), some (pvI j9.1), some (pvI (-1)), some (pvL (-9223372036854775808)), none, none, none, none, none]) (pc' := 58) dX11_tops_56 rfl (Nat.le_of_ble_eq_true rfl) rfl ?_
      refine go_bipush (pc' := 60) dX11_tops_58 rfl (r32_c rfl) (by decide) ?_
      refine go_istore (L' := [some (pvR 11 0 129), some (pvI x1), some (pvI x2), some (pvI x3), some (pvI x4), some (pvI y11), some (pvI y12), some (pvI j9.1), some (pvI (-1)), some (pvL (-9223372036854775808)), none, some (pvI 11), none, none, none]) (pc' := 62) dX11_tops_60 rfl (Nat.le_of_ble_eq_true rfl) rfl ?_
      obtain ⟨j39, k40, h⟩ := bd h
      refine l_M_tops_62 d n e x1 x2 x3 x4 j9 y11 y12 zFuel (-1) (-9223372036854775808) 11 σ14 _ k40 ?_
      refine go_iload (pc' := 169) dX11_tops_167 rfl rfl ?_
      refine go_if_ge (t := 175) (pc' := 172) dX11_tops_169 rfl rfl (fun c45 => ?_) (fun c45 => ?_)
      · rw [if_pos (show 0 ≤ j39.1 from c45)] at h
        refine go_iload (pc' := 177) dX11_tops_175 rfl rfl ?_
        refine go_iconst (pc' := 178) dX11_tops_177 rfl (r32_c rfl) ?_
        refine go_iload (pc' := 180) dX11_tops_178 rfl rfl ?_
        refine go_ishl (pc' := 181) dX11_tops_180 rfl ?_
        refine go_ior (pc' := 182) dX11_tops_181 rfl ?_
        refine go_istore (L' := [some (pvR 11 0 129), some (pvI x1), some (pvI x2), some (pvI x3), some (pvI x4), some (pvI y11), some (pvI (ior y12 (ishl 1 j39.1))), some (pvI j9.1), some (pvI j39.1), some (pvL j39.2.1), none, some (pvI j39.2.2.1), none, none, none]) (pc' := 184) dX11_tops_182 rfl (Nat.le_of_ble_eq_true rfl) rfl ?_
        refine go_aload_n (pc' := 185) dX11_tops_184 rfl rfl (Nat.le_of_ble_eq_true rfl) ?_
        refine go_getR (k' := 12) (L0 := 36) (P' := 164) (pc' := 188) dX11_tops_185 rfl rf_11_122 rfl rfl (by omega) ?_
        refine go_bipush (pc' := 190) dX11_tops_188 rfl (r32_c rfl) (by decide) ?_
        refine go_iload_n (pc' := 191) dX11_tops_190 rfl rfl ?_
        obtain ⟨g41, h⟩ := gd h
        refine go_imul (pc' := 192) dX11_tops_191 rfl g41 ?_
        refine go_iload (pc' := 194) dX11_tops_192 rfl rfl ?_
        obtain ⟨g42, h⟩ := gd h
        refine go_iadd (pc' := 195) dX11_tops_194 rfl g42 ?_
        refine go_iload (pc' := 197) dX11_tops_195 rfl rfl ?_
        obtain ⟨g43, h⟩ := gd h
        refine go_iast (pc' := 198) dX11_tops_197 rfl g43 ?_
        obtain ⟨g44, h⟩ := gd h
        refine go_iinc (L' := [some (pvR 11 0 129), some (pvI x1), some (pvI x2), some (pvI x3), some (pvI x4), some (pvI (y11 + 1)), some (pvI (ior y12 (ishl 1 j39.1))), some (pvI j9.1), some (pvI j39.1), some (pvL j39.2.1), none, some (pvI j39.2.2.1), none, none, none]) (pc' := 201) dX11_tops_198 rfl rfl g44 rfl ?_
        refine go_goto (t := 43) dX11_tops_201 rfl ?_
        exact go_sub (ih (y11 + 1) (ior y12 (ishl 1 j39.1)) j39.1 (hset j39.2.2.2 164 ((12 * x1) + y11) j39.1) _ h) ⟨Or.inr rfl, Or.inr rfl, Or.inr rfl, Or.inr rfl, Or.inr rfl, Or.inr rfl, Or.inr rfl, Or.inr rfl, Or.inr rfl, Or.inl rfl, Or.inr rfl, Or.inl rfl, Or.inr rfl, Or.inr rfl, Or.inr rfl, trivial⟩
      · rw [if_neg (show ¬ (0 ≤ j39.1) from c45)] at h
        refine go_iload (pc' := 174) dX11_tops_172 rfl rfl ?_
        cases h
        exact go_iret dX11_tops_174 rfl rfl

set_option maxRecDepth 10000 in
theorem l_M_tops (d : Nat) (n e : Nat) (σ : Hp) (x1 : Int) (x2 : Int) (x3 : Int) (x4 : Int) (r : Int × Hp) (h : f_M_tops σ x1 x2 x3 x4 = some r) : Ev (d + 283) 226 [pvR 11 0 129, pvI x1, pvI x2, pvI x3, pvI x4] (true, n, e, σ) (0, some (pvI r.1), true, n, e, r.2) := by
  unfold f_M_tops at h
  refine Ev.of mtE226 rfl rfl rfl rfl ?_
  show Go none (Ev (d + 282)) mt226 0 [some (pvR 11 0 129), some (pvI x1), some (pvI x2), some (pvI x3), some (pvI x4), none, none, none, none, none, none, none, none, none, none] [] (true, n, e, σ) (0, some (pvI r.1), true, n, e, r.2)
  refine go_iconst (pc' := 1) dX11_tops_0 rfl (r32_c rfl) ?_
  refine go_istore (L' := [some (pvR 11 0 129), some (pvI x1), some (pvI x2), some (pvI x3), some (pvI x4), some (pvI 0), none, none, none, none, none, none, none, none, none]) (pc' := 3) dX11_tops_1 rfl (Nat.le_of_ble_eq_true rfl) rfl ?_
  refine go_iconst (pc' := 4) dX11_tops_3 rfl (r32_c rfl) ?_
  refine go_istore (L' := [some (pvR 11 0 129), some (pvI x1), some (pvI x2), some (pvI x3), some (pvI x4), some (pvI 0), some (pvI 0), none, none, none, none, none, none, none, none]) (pc' := 6) dX11_tops_4 rfl (Nat.le_of_ble_eq_true rfl) rfl ?_
  refine go_iconst (pc' := 7) dX11_tops_6 rfl (r32_c rfl) ?_
  refine go_istore (L' := [some (pvR 11 0 129), some (pvI x1), some (pvI x2), some (pvI x3), some (pvI x4), some (pvI 0), some (pvI 0), some (pvI 0), none, none, none, none, none, none, none]) (pc' := 9) dX11_tops_7 rfl (Nat.le_of_ble_eq_true rfl) rfl ?_
  refine go_iconst (pc' := 10) dX11_tops_9 rfl (r32_c rfl) ?_
  refine go_istore (L' := [some (pvR 11 0 129), some (pvI x1), some (pvI x2), some (pvI x3), some (pvI x4), some (pvI 0), some (pvI 0), some (pvI 0), some (pvI 0), none, none, none, none, none, none]) (pc' := 12) dX11_tops_10 rfl (Nat.le_of_ble_eq_true rfl) rfl ?_
  obtain ⟨j9, k10, h⟩ := bd h
  refine l_M_tops_12 d n e σ x1 x2 x3 x4 zFuel 0 0 _ k10 ?_
  exact l_M_tops_43 d n e x1 x2 x3 x4 j9 zFuel 0 0 j9.2 σ _ h

set_option maxRecDepth 10000 in
theorem l_M_pick_147 (d : Nat) (n : Nat) (e : Nat) (x1 : Int) (x2 : Int) (x3 : Int) (x4 : Int) (x5 : Int) (j3 : Int) (j19 : Int) {out : Out} : ∀ (F : Nat) (y37 : Int) (y38 : Int) (σ39 : Hp) (j52 : Int × Int × Hp), f_M_pick_147 x1 x2 x3 F y37 y38 σ39 = some j52 → Go none (Ev (d + 283)) mt224 193 [some (pvR 11 0 129), some (pvI x1), some (pvI x2), some (pvI x3), some (pvI x4), some (pvI x5), some (pvI j3), some (pvI j19), some (pvI j52.1), some (pvI j52.2.1)] [] (true, n, e, j52.2.2) out → Go none (Ev (d + 283)) mt224 147 [some (pvR 11 0 129), some (pvI x1), some (pvI x2), some (pvI x3), some (pvI x4), some (pvI x5), some (pvI j3), some (pvI j19), some (pvI y37), some (pvI y38)] [] (true, n, e, σ39) out := by
  intro F
  induction F with
  | zero =>
    intro _ _ _ _ h
    intro _
    rw [f_M_pick_147] at h
    cases h
  | succ F ih =>
    intro y37 y38 σ39 j52 h hx
    rw [f_M_pick_147] at h
    refine go_iload (pc' := 149) dX11_pick_147 rfl rfl ?_
    refine go_aload_n (pc' := 150) dX11_pick_149 rfl rfl (Nat.le_of_ble_eq_true rfl) ?_
    refine go_getR (k' := 12) (L0 := 3) (P' := 130) (pc' := 153) dX11_pick_150 rfl rf_11_9 rfl rfl (by omega) ?_
    refine go_iload_n (pc' := 154) dX11_pick_153 rfl rfl ?_
    obtain ⟨g40, h⟩ := gd h
    refine go_iald (pc' := 155) dX11_pick_154 rfl g40 ?_
    refine go_icmp_ge (t := 193) (pc' := 158) dX11_pick_155 rfl rfl (fun c51 => ?_) (fun c51 => ?_)
    · rw [if_pos (show (σ39 130 x1) ≤ y38 from c51)] at h
      cases h
      exact hx
    · rw [if_neg (show ¬ ((σ39 130 x1) ≤ y38) from c51)] at h
      refine go_aload_n (pc' := 159) dX11_pick_158 rfl rfl (Nat.le_of_ble_eq_true rfl) ?_
      refine go_iload_n (pc' := 160) dX11_pick_159 rfl rfl ?_
      refine go_iload_n (pc' := 161) dX11_pick_160 rfl rfl ?_
      refine go_iload (pc' := 163) dX11_pick_161 rfl rfl ?_
      refine go_iload_n (pc' := 164) dX11_pick_163 rfl rfl ?_
      obtain ⟨v41, k42, h⟩ := bd h
      have k42 := l_M_fits (d + 279) n e σ39 x1 x2 y38 x3 _ k42
      refine go_call (kc := 225) (Mc := mt225) (v := some (pvI v41)) (w' := (true, n, e, σ39)) (pc' := 167) (st' := [pvI v41]) [pvR 11 0 129, pvI x1, pvI x2, pvI y38, pvI x3] [] (Or.inl rfl) dX11_pick_164 rfl rm_11_329 mtE225 rfl rfl rfl (Nat.le_of_ble_eq_true rfl) (Or.inr ⟨_, _, 129, rfl, Or.inl rfl⟩) k42 rfl ?_
      obtain ⟨j43, k44, h⟩ := bd h
      have k44J : Go none (Ev (d + 283)) mt224 187 [some (pvR 11 0 129), some (pvI x1), some (pvI x2), some (pvI x3), some (pvI x4), some (pvI x5), some (pvI j3), some (pvI j19), some (pvI j43.1), some (pvI y38)] [] (true, n, e, j43.2) out := by
        obtain ⟨g49, h⟩ := gd h
        refine go_iinc (L' := [some (pvR 11 0 129), some (pvI x1), some (pvI x2), some (pvI x3), some (pvI x4), some (pvI x5), some (pvI j3), some (pvI j19), some (pvI j43.1), some (pvI (y38 + 1))]) (pc' := 190) dX11_pick_187 rfl rfl g49 rfl ?_
        refine go_goto (t := 147) dX11_pick_190 rfl ?_
        exact ih j43.1 (y38 + 1) j43.2 _ h hx
      clear h
      have h := k44
      refine go_if_eq (t := 187) (pc' := 170) dX11_pick_167 rfl rfl (fun c50 => ?_) (fun c50 => ?_)
      · rw [if_pos (show v41 = 0 from c50)] at h
        cases h
        exact k44J
      · rw [if_neg (show ¬ (v41 = 0) from c50)] at h
        refine go_aload_n (pc' := 171) dX11_pick_170 rfl rfl (Nat.le_of_ble_eq_true rfl) ?_
        refine go_getR (k' := 12) (L0 := 36) (P' := 164) (pc' := 174) dX11_pick_171 rfl rf_11_122 rfl rfl (by omega) ?_
        refine go_bipush (pc' := 176) dX11_pick_174 rfl (r32_c rfl) (by decide) ?_
        refine go_iload_n (pc' := 177) dX11_pick_176 rfl rfl ?_
        obtain ⟨g45, h⟩ := gd h
        refine go_imul (pc' := 178) dX11_pick_177 rfl g45 ?_
        refine go_iload (pc' := 180) dX11_pick_178 rfl rfl ?_
        obtain ⟨g46, h⟩ := gd h
        refine go_iadd (pc' := 181) dX11_pick_180 rfl g46 ?_
        refine go_iload (pc' := 183) dX11_pick_181 rfl rfl ?_
        obtain ⟨g47, h⟩ := gd h
        refine go_iast (pc' := 184) dX11_pick_183 rfl g47 ?_
        obtain ⟨g48, h⟩ := gd h
        refine go_iinc (L' := [some (pvR 11 0 129), some (pvI x1), some (pvI x2), some (pvI x3), some (pvI x4), some (pvI x5), some (pvI j3), some (pvI j19), some (pvI (y37 + 1)), some (pvI y38)]) (pc' := 187) dX11_pick_184 rfl rfl g48 rfl ?_
        cases h
        exact k44J

set_option maxRecDepth 10000 in
theorem l_M_pick (d : Nat) (n e : Nat) (σ : Hp) (x1 : Int) (x2 : Int) (x3 : Int) (x4 : Int) (x5 : Int) (r : Int × Hp) (h : f_M_pick σ x1 x2 x3 x4 x5 = some r) : Ev (d + 284) 224 [pvR 11 0 129, pvI x1, pvI x2, pvI x3, pvI x4, pvI x5] (true, n, e, σ) (0, some (pvI r.1), true, n, e, r.2) := by
  unfold f_M_pick at h
  refine Ev.of mtE224 rfl rfl rfl rfl ?_
  show Go none (Ev (d + 283)) mt224 0 [some (pvR 11 0 129), some (pvI x1), some (pvI x2), some (pvI x3), some (pvI x4), some (pvI x5), none, none, none, none] [] (true, n, e, σ) (0, some (pvI r.1), true, n, e, r.2)
  refine go_aload_n (pc' := 1) dX11_pick_0 rfl rfl (Nat.le_of_ble_eq_true rfl) ?_
  refine go_iload_n (pc' := 2) dX11_pick_1 rfl rfl ?_
  obtain ⟨v1, k2, h⟩ := bd h
  have k2 := l_M_isDim (d + 281) n e σ x1 _ k2
  refine go_call (kc := 171) (Mc := mt171) (v := some (pvI v1)) (w' := (true, n, e, σ)) (pc' := 5) (st' := [pvI v1]) [pvR 11 0 129, pvI x1] [] (Or.inl rfl) dX11_pick_2 rfl rm_11_149 mtE171 rfl rfl rfl (Nat.le_of_ble_eq_true rfl) (Or.inr ⟨_, _, 129, rfl, Or.inl rfl⟩) k2 rfl ?_
  obtain ⟨j3, k4, h⟩ := bd h
  have k4J : Go none (Ev (d + 283)) mt224 41 [some (pvR 11 0 129), some (pvI x1), some (pvI x2), some (pvI x3), some (pvI x4), some (pvI x5), none, none, none, none] [pvI j3] (true, n, e, σ) (0, some (pvI r.1), true, n, e, r.2) := by
    refine go_istore (L' := [some (pvR 11 0 129), some (pvI x1), some (pvI x2), some (pvI x3), some (pvI x4), some (pvI x5), some (pvI j3), none, none, none]) (pc' := 43) dX11_pick_41 rfl (Nat.le_of_ble_eq_true rfl) rfl ?_
    refine go_aload_n (pc' := 44) dX11_pick_43 rfl rfl (Nat.le_of_ble_eq_true rfl) ?_
    refine go_iload_n (pc' := 45) dX11_pick_44 rfl rfl ?_
    refine go_i2l (pc' := 46) dX11_pick_45 rfl ?_
    refine go_lconst (z := 0) (pc' := 47) dX11_pick_46 rfl rfl ?_
    refine go_ldc2 (pc' := 50) dX11_pick_47 rfl (r64_c rfl) rc_11_143 ?_
    obtain ⟨v17, k18, h⟩ := bd h
    have k18 := l_M_in (d + 282) n e σ x2 0 2 _ k18
    refine go_call (kc := 172) (Mc := mt172) (v := some (pvI v17)) (w' := (true, n, e, σ)) (pc' := 53) (st' := [pvI v17]) [pvR 11 0 129, pvL x2, pvL 0, pvL 2] [] (Or.inl rfl) dX11_pick_50 rfl rm_11_145 mtE172 rfl rfl rfl (Nat.le_of_ble_eq_true rfl) (Or.inr ⟨_, _, 129, rfl, Or.inl rfl⟩) k18 rfl ?_
    obtain ⟨j19, k20, h⟩ := bd h
    have k20J : Go none (Ev (d + 283)) mt224 93 [some (pvR 11 0 129), some (pvI x1), some (pvI x2), some (pvI x3), some (pvI x4), some (pvI x5), some (pvI j3), none, none, none] [pvI j19] (true, n, e, σ) (0, some (pvI r.1), true, n, e, r.2) := by
      refine go_istore (L' := [some (pvR 11 0 129), some (pvI x1), some (pvI x2), some (pvI x3), some (pvI x4), some (pvI x5), some (pvI j3), some (pvI j19), none, none]) (pc' := 95) dX11_pick_93 rfl (Nat.le_of_ble_eq_true rfl) rfl ?_
      refine go_aload_n (pc' := 96) dX11_pick_95 rfl rfl (Nat.le_of_ble_eq_true rfl) ?_
      refine go_iload (pc' := 98) dX11_pick_96 rfl rfl ?_
      obtain ⟨j28, k29, h⟩ := bd h
      have k29J : Go none (Ev (d + 283)) mt224 133 [some (pvR 11 0 129), some (pvI x1), some (pvI x2), some (pvI x3), some (pvI x4), some (pvI x5), some (pvI j3), some (pvI j19), none, none] [pvI j28, pvR 11 0 129] (true, n, e, σ) (0, some (pvI r.1), true, n, e, r.2) := by
        obtain ⟨v35, k36, h⟩ := bd h
        have k36 := l_M_holds (d + 282) n e σ j28 _ k36
        refine go_call (kc := 174) (Mc := mt174) (v := some (pvI v35.1)) (w' := (true, n, e, v35.2)) (pc' := 136) (st' := [pvI v35.1]) [pvR 11 0 129, pvI j28] [] (Or.inl rfl) dX11_pick_133 rfl rm_11_185 mtE174 rfl rfl rfl (Nat.le_of_ble_eq_true rfl) (Or.inr ⟨_, _, 129, rfl, Or.inl rfl⟩) k36 rfl ?_
        refine go_if_eq (t := 141) (pc' := 139) dX11_pick_136 rfl rfl (fun c62 => ?_) (fun c62 => ?_)
        · rw [if_pos (show v35.1 = 0 from c62)] at h
          refine go_iconst (pc' := 142) dX11_pick_141 rfl (r32_c rfl) ?_
          refine go_istore (L' := [some (pvR 11 0 129), some (pvI x1), some (pvI x2), some (pvI x3), some (pvI x4), some (pvI x5), some (pvI j3), some (pvI j19), some (pvI 0), none]) (pc' := 144) dX11_pick_142 rfl (Nat.le_of_ble_eq_true rfl) rfl ?_
          refine go_iconst (pc' := 145) dX11_pick_144 rfl (r32_c rfl) ?_
          refine go_istore (L' := [some (pvR 11 0 129), some (pvI x1), some (pvI x2), some (pvI x3), some (pvI x4), some (pvI x5), some (pvI j3), some (pvI j19), some (pvI 0), some (pvI 0)]) (pc' := 147) dX11_pick_145 rfl (Nat.le_of_ble_eq_true rfl) rfl ?_
          obtain ⟨j53, k54, h⟩ := bd h
          refine l_M_pick_147 d n e x1 x2 x3 x4 x5 j3 j19 zFuel 0 0 v35.2 _ k54 ?_
          refine go_aload_n (pc' := 194) dX11_pick_193 rfl rfl (Nat.le_of_ble_eq_true rfl) ?_
          refine go_getR (k' := 12) (L0 := 3) (P' := 165) (pc' := 197) dX11_pick_194 rfl rf_11_125 rfl rfl (by omega) ?_
          refine go_iload_n (pc' := 198) dX11_pick_197 rfl rfl ?_
          refine go_iload (pc' := 200) dX11_pick_198 rfl rfl ?_
          obtain ⟨j55, k56, h⟩ := bd h
          have k56J : Go none (Ev (d + 283)) mt224 219 [some (pvR 11 0 129), some (pvI x1), some (pvI x2), some (pvI x3), some (pvI x4), some (pvI x5), some (pvI j3), some (pvI j19), some (pvI j53.1), some (pvI j53.2.1)] [pvI j55.1, pvI x1, pvR 12 3 165] (true, n, e, j55.2) (0, some (pvI r.1), true, n, e, r.2) := by
            obtain ⟨g59, h⟩ := gd h
            refine go_iast (pc' := 220) dX11_pick_219 rfl g59 ?_
            refine go_aload_n (pc' := 221) dX11_pick_220 rfl rfl (Nat.le_of_ble_eq_true rfl) ?_
            refine go_getR (k' := 12) (L0 := 3) (P' := 165) (pc' := 224) dX11_pick_221 rfl rf_11_125 rfl rfl (by omega) ?_
            refine go_iload_n (pc' := 225) dX11_pick_224 rfl rfl ?_
            obtain ⟨g60, h⟩ := gd h
            refine go_iald (pc' := 226) dX11_pick_225 rfl g60 ?_
            cases h
            exact go_iret dX11_pick_226 rfl rfl
          clear h
          have h := k56
          refine go_if_ne (t := 208) (pc' := 203) dX11_pick_200 rfl rfl (fun c61 => ?_) (fun c61 => ?_)
          · rw [if_pos (show x5 ≠ 0 from c61)] at h
            refine go_aload_n (pc' := 209) dX11_pick_208 rfl rfl (Nat.le_of_ble_eq_true rfl) ?_
            refine go_iload_n (pc' := 210) dX11_pick_209 rfl rfl ?_
            refine go_iload (pc' := 212) dX11_pick_210 rfl rfl ?_
            refine go_iload (pc' := 214) dX11_pick_212 rfl rfl ?_
            refine go_iload (pc' := 216) dX11_pick_214 rfl rfl ?_
            obtain ⟨v57, k58, h⟩ := bd h
            have k58 := l_M_tops (d + 0) n e j53.2.2 x1 j53.1 x4 x5 _ k58
            refine go_call (kc := 226) (Mc := mt226) (v := some (pvI v57.1)) (w' := (true, n, e, v57.2)) (pc' := 219) (st' := [pvI v57.1, pvI x1, pvR 12 3 165]) [pvR 11 0 129, pvI x1, pvI j53.1, pvI x4, pvI x5] [pvI x1, pvR 12 3 165] (Or.inl rfl) dX11_pick_216 rfl rm_11_332 mtE226 rfl rfl rfl (Nat.le_of_ble_eq_true rfl) (Or.inr ⟨_, _, 129, rfl, Or.inl rfl⟩) k58 rfl ?_
            cases h
            exact k56J
          · rw [if_neg (show ¬ (x5 ≠ 0) from c61)] at h
            refine go_iload (pc' := 205) dX11_pick_203 rfl rfl ?_
            refine go_goto (t := 219) dX11_pick_205 rfl ?_
            cases h
            exact k56J
        · rw [if_neg (show ¬ (v35.1 = 0) from c62)] at h
          refine go_iconst (pc' := 140) dX11_pick_139 rfl (r32_c rfl) ?_
          cases h
          exact go_iret dX11_pick_140 rfl rfl
      clear h
      have h := k29
      refine go_if_ne (t := 105) (pc' := 101) dX11_pick_98 rfl rfl (fun c63 => ?_) (fun c63 => ?_)
      · rw [if_pos (show j3 ≠ 0 from c63)] at h
        refine go_iload (pc' := 107) dX11_pick_105 rfl rfl ?_
        refine go_if_ne (t := 114) (pc' := 110) dX11_pick_107 rfl rfl (fun c34 => ?_) (fun c34 => ?_)
        · rw [if_pos (show j19 ≠ 0 from c34)] at h
          refine go_iload_n (pc' := 115) dX11_pick_114 rfl rfl ?_
          refine go_iconst (pc' := 116) dX11_pick_115 rfl (r32_c rfl) ?_
          refine go_icmp_eq (t := 132) (pc' := 119) dX11_pick_116 rfl rfl (fun c33 => ?_) (fun c33 => ?_)
          · rw [if_pos (show x2 = 2 from c33)] at h
            refine go_iconst (pc' := 133) dX11_pick_132 rfl (r32_c rfl) ?_
            cases h
            exact k29J
          · rw [if_neg (show ¬ (x2 = 2) from c33)] at h
            refine go_aload_n (pc' := 120) dX11_pick_119 rfl rfl (Nat.le_of_ble_eq_true rfl) ?_
            refine go_iload_n (pc' := 121) dX11_pick_120 rfl rfl ?_
            refine go_iload_n (pc' := 122) dX11_pick_121 rfl rfl ?_
            obtain ⟨v30, k31, h⟩ := bd h
            have k31 := l_M_isPlain (d + 282) n e σ x1 x3 _ k31
            refine go_call (kc := 173) (Mc := mt173) (v := some (pvI v30)) (w' := (true, n, e, σ)) (pc' := 125) (st' := [pvI v30, pvR 11 0 129]) [pvR 11 0 129, pvI x1, pvI x3] [pvR 11 0 129] (Or.inl rfl) dX11_pick_122 rfl rm_11_180 mtE173 rfl rfl rfl (Nat.le_of_ble_eq_true rfl) (Or.inr ⟨_, _, 129, rfl, Or.inl rfl⟩) k31 rfl ?_
            refine go_if_ne (t := 132) (pc' := 128) dX11_pick_125 rfl rfl (fun c32 => ?_) (fun c32 => ?_)
            · rw [if_pos (show v30 ≠ 0 from c32)] at h
              refine go_iconst (pc' := 133) dX11_pick_132 rfl (r32_c rfl) ?_
              cases h
              exact k29J
            · rw [if_neg (show ¬ (v30 ≠ 0) from c32)] at h
              refine go_iconst (pc' := 129) dX11_pick_128 rfl (r32_c rfl) ?_
              refine go_goto (t := 133) dX11_pick_129 rfl ?_
              cases h
              exact k29J
        · rw [if_neg (show ¬ (j19 ≠ 0) from c34)] at h
          refine go_iconst (pc' := 111) dX11_pick_110 rfl (r32_c rfl) ?_
          refine go_goto (t := 133) dX11_pick_111 rfl ?_
          cases h
          exact k29J
      · rw [if_neg (show ¬ (j3 ≠ 0) from c63)] at h
        refine go_iconst (pc' := 102) dX11_pick_101 rfl (r32_c rfl) ?_
        refine go_goto (t := 133) dX11_pick_102 rfl ?_
        cases h
        exact k29J
    clear h
    have h := k20
    refine go_if_eq (t := 92) (pc' := 56) dX11_pick_53 rfl rfl (fun c64 => ?_) (fun c64 => ?_)
    · rw [if_pos (show v17 = 0 from c64)] at h
      refine go_iconst (pc' := 93) dX11_pick_92 rfl (r32_c rfl) ?_
      cases h
      exact k20J
    · rw [if_neg (show ¬ (v17 = 0) from c64)] at h
      refine go_aload_n (pc' := 57) dX11_pick_56 rfl rfl (Nat.le_of_ble_eq_true rfl) ?_
      refine go_iload (pc' := 59) dX11_pick_57 rfl rfl ?_
      refine go_i2l (pc' := 60) dX11_pick_59 rfl ?_
      refine go_lconst (z := 0) (pc' := 61) dX11_pick_60 rfl rfl ?_
      refine go_ldc2 (pc' := 64) dX11_pick_61 rfl (r64_c rfl) rc_11_327 ?_
      obtain ⟨v21, k22, h⟩ := bd h
      have k22 := l_M_in (d + 282) n e σ x5 0 12 _ k22
      refine go_call (kc := 172) (Mc := mt172) (v := some (pvI v21)) (w' := (true, n, e, σ)) (pc' := 67) (st' := [pvI v21]) [pvR 11 0 129, pvL x5, pvL 0, pvL 12] [] (Or.inl rfl) dX11_pick_64 rfl rm_11_145 mtE172 rfl rfl rfl (Nat.le_of_ble_eq_true rfl) (Or.inr ⟨_, _, 129, rfl, Or.inl rfl⟩) k22 rfl ?_
      refine go_if_eq (t := 92) (pc' := 70) dX11_pick_67 rfl rfl (fun c27 => ?_) (fun c27 => ?_)
      · rw [if_pos (show v21 = 0 from c27)] at h
        refine go_iconst (pc' := 93) dX11_pick_92 rfl (r32_c rfl) ?_
        cases h
        exact k20J
      · rw [if_neg (show ¬ (v21 = 0) from c27)] at h
        refine go_iload_n (pc' := 71) dX11_pick_70 rfl rfl ?_
        refine go_iconst (pc' := 72) dX11_pick_71 rfl (r32_c rfl) ?_
        refine go_icmp_ne (t := 88) (pc' := 75) dX11_pick_72 rfl rfl (fun c26 => ?_) (fun c26 => ?_)
        · rw [if_pos (show x2 ≠ 2 from c26)] at h
          refine go_iconst (pc' := 89) dX11_pick_88 rfl (r32_c rfl) ?_
          refine go_goto (t := 93) dX11_pick_89 rfl ?_
          cases h
          exact k20J
        · rw [if_neg (show ¬ (x2 ≠ 2) from c26)] at h
          refine go_aload_n (pc' := 76) dX11_pick_75 rfl rfl (Nat.le_of_ble_eq_true rfl) ?_
          refine go_iload_n (pc' := 77) dX11_pick_76 rfl rfl ?_
          refine go_i2l (pc' := 78) dX11_pick_77 rfl ?_
          refine go_lconst (z := 0) (pc' := 79) dX11_pick_78 rfl rfl ?_
          refine go_ldc2 (pc' := 82) dX11_pick_79 rfl (r64_c rfl) rc_11_217 ?_
          obtain ⟨v23, k24, h⟩ := bd h
          have k24 := l_M_in (d + 282) n e σ x3 0 11 _ k24
          refine go_call (kc := 172) (Mc := mt172) (v := some (pvI v23)) (w' := (true, n, e, σ)) (pc' := 85) (st' := [pvI v23]) [pvR 11 0 129, pvL x3, pvL 0, pvL 11] [] (Or.inl rfl) dX11_pick_82 rfl rm_11_145 mtE172 rfl rfl rfl (Nat.le_of_ble_eq_true rfl) (Or.inr ⟨_, _, 129, rfl, Or.inl rfl⟩) k24 rfl ?_
          refine go_if_eq (t := 92) (pc' := 88) dX11_pick_85 rfl rfl (fun c25 => ?_) (fun c25 => ?_)
          · rw [if_pos (show v23 = 0 from c25)] at h
            refine go_iconst (pc' := 93) dX11_pick_92 rfl (r32_c rfl) ?_
            cases h
            exact k20J
          · rw [if_neg (show ¬ (v23 = 0) from c25)] at h
            refine go_iconst (pc' := 89) dX11_pick_88 rfl (r32_c rfl) ?_
            refine go_goto (t := 93) dX11_pick_89 rfl ?_
            cases h
            exact k20J
  clear h
  have h := k4
  refine go_if_eq (t := 40) (pc' := 8) dX11_pick_5 rfl rfl (fun c65 => ?_) (fun c65 => ?_)
  · rw [if_pos (show v1 = 0 from c65)] at h
    refine go_iconst (pc' := 41) dX11_pick_40 rfl (r32_c rfl) ?_
    cases h
    exact k4J
  · rw [if_neg (show ¬ (v1 = 0) from c65)] at h
    refine go_iload_n (pc' := 9) dX11_pick_8 rfl rfl ?_
    refine go_iconst (pc' := 10) dX11_pick_9 rfl (r32_c rfl) ?_
    refine go_icmp_eq (t := 22) (pc' := 13) dX11_pick_10 rfl rfl (fun c16 => ?_) (fun c16 => ?_)
    · rw [if_pos (show x2 = 2 from c16)] at h
      refine go_iload (pc' := 24) dX11_pick_22 rfl rfl ?_
      refine go_if_eq (t := 36) (pc' := 27) dX11_pick_24 rfl rfl (fun c8 => ?_) (fun c8 => ?_)
      · rw [if_pos (show x5 = 0 from c8)] at h
        refine go_iconst (pc' := 37) dX11_pick_36 rfl (r32_c rfl) ?_
        refine go_goto (t := 41) dX11_pick_37 rfl ?_
        cases h
        exact k4J
      · rw [if_neg (show ¬ (x5 = 0) from c8)] at h
        refine go_aload_n (pc' := 28) dX11_pick_27 rfl rfl (Nat.le_of_ble_eq_true rfl) ?_
        refine go_iload (pc' := 30) dX11_pick_28 rfl rfl ?_
        obtain ⟨v5, k6, h⟩ := bd h
        have k6 := l_M_isMeasure (d + 281) n e σ x4 _ k6
        refine go_call (kc := 193) (Mc := mt193) (v := some (pvI v5)) (w' := (true, n, e, σ)) (pc' := 33) (st' := [pvI v5]) [pvR 11 0 129, pvI x4] [] (Or.inl rfl) dX11_pick_30 rfl rm_11_160 mtE193 rfl rfl rfl (Nat.le_of_ble_eq_true rfl) (Or.inr ⟨_, _, 129, rfl, Or.inl rfl⟩) k6 rfl ?_
        refine go_if_eq (t := 40) (pc' := 36) dX11_pick_33 rfl rfl (fun c7 => ?_) (fun c7 => ?_)
        · rw [if_pos (show v5 = 0 from c7)] at h
          refine go_iconst (pc' := 41) dX11_pick_40 rfl (r32_c rfl) ?_
          cases h
          exact k4J
        · rw [if_neg (show ¬ (v5 = 0) from c7)] at h
          refine go_iconst (pc' := 37) dX11_pick_36 rfl (r32_c rfl) ?_
          refine go_goto (t := 41) dX11_pick_37 rfl ?_
          cases h
          exact k4J
    · rw [if_neg (show ¬ (x2 = 2) from c16)] at h
      refine go_aload_n (pc' := 14) dX11_pick_13 rfl rfl (Nat.le_of_ble_eq_true rfl) ?_
      refine go_iload_n (pc' := 15) dX11_pick_14 rfl rfl ?_
      refine go_iload_n (pc' := 16) dX11_pick_15 rfl rfl ?_
      obtain ⟨v9, k10, h⟩ := bd h
      have k10 := l_M_is (d + 280) n e σ x1 x3 _ k10
      refine go_call (kc := 170) (Mc := mt170) (v := some (pvI v9)) (w' := (true, n, e, σ)) (pc' := 19) (st' := [pvI v9]) [pvR 11 0 129, pvI x1, pvI x3] [] (Or.inl rfl) dX11_pick_16 rfl rm_11_156 mtE170 rfl rfl rfl (Nat.le_of_ble_eq_true rfl) (Or.inr ⟨_, _, 129, rfl, Or.inl rfl⟩) k10 rfl ?_
      refine go_if_eq (t := 40) (pc' := 22) dX11_pick_19 rfl rfl (fun c15 => ?_) (fun c15 => ?_)
      · rw [if_pos (show v9 = 0 from c15)] at h
        refine go_iconst (pc' := 41) dX11_pick_40 rfl (r32_c rfl) ?_
        cases h
        exact k4J
      · rw [if_neg (show ¬ (v9 = 0) from c15)] at h
        refine go_iload (pc' := 24) dX11_pick_22 rfl rfl ?_
        refine go_if_eq (t := 36) (pc' := 27) dX11_pick_24 rfl rfl (fun c14 => ?_) (fun c14 => ?_)
        · rw [if_pos (show x5 = 0 from c14)] at h
          refine go_iconst (pc' := 37) dX11_pick_36 rfl (r32_c rfl) ?_
          refine go_goto (t := 41) dX11_pick_37 rfl ?_
          cases h
          exact k4J
        · rw [if_neg (show ¬ (x5 = 0) from c14)] at h
          refine go_aload_n (pc' := 28) dX11_pick_27 rfl rfl (Nat.le_of_ble_eq_true rfl) ?_
          refine go_iload (pc' := 30) dX11_pick_28 rfl rfl ?_
          obtain ⟨v11, k12, h⟩ := bd h
          have k12 := l_M_isMeasure (d + 281) n e σ x4 _ k12
          refine go_call (kc := 193) (Mc := mt193) (v := some (pvI v11)) (w' := (true, n, e, σ)) (pc' := 33) (st' := [pvI v11]) [pvR 11 0 129, pvI x4] [] (Or.inl rfl) dX11_pick_30 rfl rm_11_160 mtE193 rfl rfl rfl (Nat.le_of_ble_eq_true rfl) (Or.inr ⟨_, _, 129, rfl, Or.inl rfl⟩) k12 rfl ?_
          refine go_if_eq (t := 40) (pc' := 36) dX11_pick_33 rfl rfl (fun c13 => ?_) (fun c13 => ?_)
          · rw [if_pos (show v11 = 0 from c13)] at h
            refine go_iconst (pc' := 41) dX11_pick_40 rfl (r32_c rfl) ?_
            cases h
            exact k4J
          · rw [if_neg (show ¬ (v11 = 0) from c13)] at h
            refine go_iconst (pc' := 37) dX11_pick_36 rfl (r32_c rfl) ?_
            refine go_goto (t := 41) dX11_pick_37 rfl ?_
            cases h
            exact k4J

set_option maxRecDepth 10000 in
theorem l_M_picked (d : Nat) (n e : Nat) (σ : Hp) (x1 : Int) (x2 : Int) (r : Int × Hp) (h : f_M_picked σ x1 x2 = some r) : Ev (d + 3) 228 [pvR 11 0 129, pvI x1, pvI x2] (true, n, e, σ) (0, some (pvI r.1), true, n, e, r.2) := by
  unfold f_M_picked at h
  refine Ev.of mtE228 rfl rfl rfl rfl ?_
  show Go none (Ev (d + 2)) mt228 0 [some (pvR 11 0 129), some (pvI x1), some (pvI x2)] [] (true, n, e, σ) (0, some (pvI r.1), true, n, e, r.2)
  refine go_aload_n (pc' := 1) dX11_picked_0 rfl rfl (Nat.le_of_ble_eq_true rfl) ?_
  refine go_aload_n (pc' := 2) dX11_picked_1 rfl rfl (Nat.le_of_ble_eq_true rfl) ?_
  refine go_iload_n (pc' := 3) dX11_picked_2 rfl rfl ?_
  obtain ⟨v1, k2, h⟩ := bd h
  have k2 := l_M_isDim (d + 0) n e σ x1 _ k2
  refine go_call (kc := 171) (Mc := mt171) (v := some (pvI v1)) (w' := (true, n, e, σ)) (pc' := 6) (st' := [pvI v1, pvR 11 0 129]) [pvR 11 0 129, pvI x1] [pvR 11 0 129] (Or.inl rfl) dX11_picked_3 rfl rm_11_149 mtE171 rfl rfl rfl (Nat.le_of_ble_eq_true rfl) (Or.inr ⟨_, _, 129, rfl, Or.inl rfl⟩) k2 rfl ?_
  obtain ⟨j3, k4, h⟩ := bd h
  have k4J : Go none (Ev (d + 2)) mt228 18 [some (pvR 11 0 129), some (pvI x1), some (pvI x2)] [pvI j3, pvR 11 0 129] (true, n, e, σ) (0, some (pvI r.1), true, n, e, r.2) := by
    obtain ⟨v6, k7, h⟩ := bd h
    have k7 := l_M_holds (d + 1) n e σ j3 _ k7
    refine go_call (kc := 174) (Mc := mt174) (v := some (pvI v6.1)) (w' := (true, n, e, v6.2)) (pc' := 21) (st' := [pvI v6.1]) [pvR 11 0 129, pvI j3] [] (Or.inl rfl) dX11_picked_18 rfl rm_11_185 mtE174 rfl rfl rfl (Nat.le_of_ble_eq_true rfl) (Or.inr ⟨_, _, 129, rfl, Or.inl rfl⟩) k7 rfl ?_
    refine go_if_eq (t := 26) (pc' := 24) dX11_picked_21 rfl rfl (fun c15 => ?_) (fun c15 => ?_)
    · rw [if_pos (show v6.1 = 0 from c15)] at h
      refine go_iload_n (pc' := 27) dX11_picked_26 rfl rfl ?_
      refine go_aload_n (pc' := 28) dX11_picked_27 rfl rfl (Nat.le_of_ble_eq_true rfl) ?_
      refine go_getR (k' := 12) (L0 := 3) (P' := 165) (pc' := 31) dX11_picked_28 rfl rf_11_125 rfl rfl (by omega) ?_
      refine go_iload_n (pc' := 32) dX11_picked_31 rfl rfl ?_
      obtain ⟨g8, h⟩ := gd h
      refine go_iald (pc' := 33) dX11_picked_32 rfl g8 ?_
      obtain ⟨j9, k10, h⟩ := bd h
      have k10J : Go none (Ev (d + 2)) mt228 51 [some (pvR 11 0 129), some (pvI x1), some (pvI x2)] [pvI j9] (true, n, e, v6.2) (0, some (pvI r.1), true, n, e, r.2) := by
        cases h
        exact go_iret dX11_picked_51 rfl rfl
      clear h
      have h := k10
      refine go_icmp_ge (t := 50) (pc' := 36) dX11_picked_33 rfl rfl (fun c14 => ?_) (fun c14 => ?_)
      · rw [if_pos (show (v6.2 165 x1) ≤ x2 from c14)] at h
        refine go_iconst (pc' := 51) dX11_picked_50 rfl (r32_c rfl) ?_
        cases h
        exact k10J
      · rw [if_neg (show ¬ ((v6.2 165 x1) ≤ x2) from c14)] at h
        refine go_aload_n (pc' := 37) dX11_picked_36 rfl rfl (Nat.le_of_ble_eq_true rfl) ?_
        refine go_getR (k' := 12) (L0 := 36) (P' := 164) (pc' := 40) dX11_picked_37 rfl rf_11_122 rfl rfl (by omega) ?_
        refine go_bipush (pc' := 42) dX11_picked_40 rfl (r32_c rfl) (by decide) ?_
        refine go_iload_n (pc' := 43) dX11_picked_42 rfl rfl ?_
        obtain ⟨g11, h⟩ := gd h
        refine go_imul (pc' := 44) dX11_picked_43 rfl g11 ?_
        refine go_iload_n (pc' := 45) dX11_picked_44 rfl rfl ?_
        obtain ⟨g12, h⟩ := gd h
        refine go_iadd (pc' := 46) dX11_picked_45 rfl g12 ?_
        obtain ⟨g13, h⟩ := gd h
        refine go_iald (pc' := 47) dX11_picked_46 rfl g13 ?_
        refine go_goto (t := 51) dX11_picked_47 rfl ?_
        cases h
        exact k10J
    · rw [if_neg (show ¬ (v6.1 = 0) from c15)] at h
      refine go_iconst (pc' := 25) dX11_picked_24 rfl (r32_c rfl) ?_
      cases h
      exact go_iret dX11_picked_25 rfl rfl
  clear h
  have h := k4
  refine go_if_eq (t := 17) (pc' := 9) dX11_picked_6 rfl rfl (fun c16 => ?_) (fun c16 => ?_)
  · rw [if_pos (show v1 = 0 from c16)] at h
    refine go_iconst (pc' := 18) dX11_picked_17 rfl (r32_c rfl) ?_
    cases h
    exact k4J
  · rw [if_neg (show ¬ (v1 = 0) from c16)] at h
    refine go_iload_n (pc' := 10) dX11_picked_9 rfl rfl ?_
    refine go_if_lt (t := 17) (pc' := 13) dX11_picked_10 rfl rfl (fun c5 => ?_) (fun c5 => ?_)
    · rw [if_pos (show x2 < 0 from c5)] at h
      refine go_iconst (pc' := 18) dX11_picked_17 rfl (r32_c rfl) ?_
      cases h
      exact k4J
    · rw [if_neg (show ¬ (x2 < 0) from c5)] at h
      refine go_iconst (pc' := 14) dX11_picked_13 rfl (r32_c rfl) ?_
      refine go_goto (t := 18) dX11_picked_14 rfl ?_
      cases h
      exact k4J

set_option maxRecDepth 10000 in
theorem l_M_cross_79 (d : Nat) (n : Nat) (e : Nat) (x1 : Int) (x2 : Int) (x3 : Int) (j3 : Int) (y17 : Int) {out : Out} : ∀ (F : Nat) (y20 : Int) (y21 : Int) (σ22 : Hp) (j53 : Int × Int × Hp), f_M_cross_79 x1 x2 x3 y17 F y20 y21 σ22 = some j53 → Go none (Ev (d + 281)) mt229 234 [some (pvR 11 0 129), some (pvI x1), some (pvI x2), some (pvI x3), some (pvI j3), some (pvI j53.1), some (pvI y17), some (pvI j53.2.1), none, none, none, none, none] [] (true, n, e, j53.2.2) out → Go none (Ev (d + 281)) mt229 79 [some (pvR 11 0 129), some (pvI x1), some (pvI x2), some (pvI x3), some (pvI j3), some (pvI y20), some (pvI y17), some (pvI y21), none, none, none, none, none] [] (true, n, e, σ22) out := by
  intro F
  induction F with
  | zero =>
    intro _ _ _ _ h
    intro _
    rw [f_M_cross_79] at h
    cases h
  | succ F ih =>
    intro y20 y21 σ22 j53 h hx
    rw [f_M_cross_79] at h
    refine go_iload (pc' := 81) dX11_cross_79 rfl rfl ?_
    refine go_aload_n (pc' := 82) dX11_cross_81 rfl rfl (Nat.le_of_ble_eq_true rfl) ?_
    refine go_getR (k' := 12) (L0 := 3) (P' := 165) (pc' := 85) dX11_cross_82 rfl rf_11_125 rfl rfl (by omega) ?_
    refine go_iload_n (pc' := 86) dX11_cross_85 rfl rfl ?_
    obtain ⟨g23, h⟩ := gd h
    refine go_iald (pc' := 87) dX11_cross_86 rfl g23 ?_
    refine go_icmp_ge (t := 234) (pc' := 90) dX11_cross_87 rfl rfl (fun c52 => ?_) (fun c52 => ?_)
    · rw [if_pos (show (σ22 165 x2) ≤ y21 from c52)] at h
      cases h
      exact hx
    · rw [if_neg (show ¬ ((σ22 165 x2) ≤ y21) from c52)] at h
      refine go_aload_n (pc' := 91) dX11_cross_90 rfl rfl (Nat.le_of_ble_eq_true rfl) ?_
      refine go_getR (k' := 12) (L0 := 36) (P' := 164) (pc' := 94) dX11_cross_91 rfl rf_11_122 rfl rfl (by omega) ?_
      refine go_bipush (pc' := 96) dX11_cross_94 rfl (r32_c rfl) (by decide) ?_
      refine go_iload_n (pc' := 97) dX11_cross_96 rfl rfl ?_
      obtain ⟨g24, h⟩ := gd h
      refine go_imul (pc' := 98) dX11_cross_97 rfl g24 ?_
      refine go_iload (pc' := 100) dX11_cross_98 rfl rfl ?_
      obtain ⟨g25, h⟩ := gd h
      refine go_iadd (pc' := 101) dX11_cross_100 rfl g25 ?_
      obtain ⟨g26, h⟩ := gd h
      refine go_iald (pc' := 102) dX11_cross_101 rfl g26 ?_
      refine go_istore (L' := [some (pvR 11 0 129), some (pvI x1), some (pvI x2), some (pvI x3), some (pvI j3), some (pvI y20), some (pvI y17), some (pvI y21), some (pvI (σ22 164 ((12 * x1) + y17))), none, none, none, none]) (pc' := 104) dX11_cross_102 rfl (Nat.le_of_ble_eq_true rfl) rfl ?_
      refine go_aload_n (pc' := 105) dX11_cross_104 rfl rfl (Nat.le_of_ble_eq_true rfl) ?_
      refine go_getR (k' := 12) (L0 := 36) (P' := 164) (pc' := 108) dX11_cross_105 rfl rf_11_122 rfl rfl (by omega) ?_
      refine go_bipush (pc' := 110) dX11_cross_108 rfl (r32_c rfl) (by decide) ?_
      refine go_iload_n (pc' := 111) dX11_cross_110 rfl rfl ?_
      obtain ⟨g27, h⟩ := gd h
      refine go_imul (pc' := 112) dX11_cross_111 rfl g27 ?_
      refine go_iload (pc' := 114) dX11_cross_112 rfl rfl ?_
      obtain ⟨g28, h⟩ := gd h
      refine go_iadd (pc' := 115) dX11_cross_114 rfl g28 ?_
      obtain ⟨g29, h⟩ := gd h
      refine go_iald (pc' := 116) dX11_cross_115 rfl g29 ?_
      refine go_istore (L' := [some (pvR 11 0 129), some (pvI x1), some (pvI x2), some (pvI x3), some (pvI j3), some (pvI y20), some (pvI y17), some (pvI y21), some (pvI (σ22 164 ((12 * x1) + y17))), some (pvI (σ22 164 ((12 * x2) + y21))), none, none, none]) (pc' := 118) dX11_cross_116 rfl (Nat.le_of_ble_eq_true rfl) rfl ?_
      refine go_iload_n (pc' := 119) dX11_cross_118 rfl rfl ?_
      obtain ⟨j30, k31, h⟩ := bd h
      have k31J : Go none (Ev (d + 281)) mt229 142 [some (pvR 11 0 129), some (pvI x1), some (pvI x2), some (pvI x3), some (pvI j3), some (pvI y20), some (pvI y17), some (pvI y21), some (pvI (σ22 164 ((12 * x1) + y17))), some (pvI (σ22 164 ((12 * x2) + y21))), none, none, none] [pvI j30] (true, n, e, σ22) out := by
        refine go_istore (L' := [some (pvR 11 0 129), some (pvI x1), some (pvI x2), some (pvI x3), some (pvI j3), some (pvI y20), some (pvI y17), some (pvI y21), some (pvI (σ22 164 ((12 * x1) + y17))), some (pvI (σ22 164 ((12 * x2) + y21))), some (pvI j30), none, none]) (pc' := 144) dX11_cross_142 rfl (Nat.le_of_ble_eq_true rfl) rfl ?_
        refine go_iload_n (pc' := 145) dX11_cross_144 rfl rfl ?_
        refine go_iconst (pc' := 146) dX11_cross_145 rfl (r32_c rfl) ?_
        obtain ⟨j34, k35, h⟩ := bd h
        have k35J : Go none (Ev (d + 281)) mt229 170 [some (pvR 11 0 129), some (pvI x1), some (pvI x2), some (pvI x3), some (pvI j3), some (pvI y20), some (pvI y17), some (pvI y21), some (pvI (σ22 164 ((12 * x1) + y17))), some (pvI (σ22 164 ((12 * x2) + y21))), some (pvI j30), none, none] [pvI j34] (true, n, e, σ22) out := by
          refine go_istore (L' := [some (pvR 11 0 129), some (pvI x1), some (pvI x2), some (pvI x3), some (pvI j3), some (pvI y20), some (pvI y17), some (pvI y21), some (pvI (σ22 164 ((12 * x1) + y17))), some (pvI (σ22 164 ((12 * x2) + y21))), some (pvI j30), some (pvI j34), none]) (pc' := 172) dX11_cross_170 rfl (Nat.le_of_ble_eq_true rfl) rfl ?_
          refine go_iload_n (pc' := 173) dX11_cross_172 rfl rfl ?_
          refine go_iconst (pc' := 174) dX11_cross_173 rfl (r32_c rfl) ?_
          obtain ⟨j38, k39, h⟩ := bd h
          have k39J : Go none (Ev (d + 281)) mt229 198 [some (pvR 11 0 129), some (pvI x1), some (pvI x2), some (pvI x3), some (pvI j3), some (pvI y20), some (pvI y17), some (pvI y21), some (pvI (σ22 164 ((12 * x1) + y17))), some (pvI (σ22 164 ((12 * x2) + y21))), some (pvI j30), some (pvI j34), none] [pvI j38] (true, n, e, σ22) out := by
            refine go_istore (L' := [some (pvR 11 0 129), some (pvI x1), some (pvI x2), some (pvI x3), some (pvI j3), some (pvI y20), some (pvI y17), some (pvI y21), some (pvI (σ22 164 ((12 * x1) + y17))), some (pvI (σ22 164 ((12 * x2) + y21))), some (pvI j30), some (pvI j34), some (pvI j38)]) (pc' := 200) dX11_cross_198 rfl (Nat.le_of_ble_eq_true rfl) rfl ?_
            refine go_iload (pc' := 202) dX11_cross_200 rfl rfl ?_
            refine go_aload_n (pc' := 203) dX11_cross_202 rfl rfl (Nat.le_of_ble_eq_true rfl) ?_
            refine go_iload (pc' := 205) dX11_cross_203 rfl rfl ?_
            refine go_iload (pc' := 207) dX11_cross_205 rfl rfl ?_
            refine go_iload (pc' := 209) dX11_cross_207 rfl rfl ?_
            refine go_iload_n (pc' := 210) dX11_cross_209 rfl rfl ?_
            obtain ⟨v42, k43, h⟩ := bd h
            have k43 := l_M_ask (d + 0) n e σ22 j30 j34 j38 x3 _ k43
            refine go_call (kc := 220) (Mc := mt220) (v := some (pvL v42.1)) (w' := (true, n, e, v42.2)) (pc' := 213) (st' := [pvL v42.1, pvI y20]) [pvR 11 0 129, pvI j30, pvI j34, pvI j38, pvI x3] [pvI y20] (Or.inl rfl) dX11_cross_210 rfl rm_11_324 mtE220 rfl rfl rfl (Nat.le_of_ble_eq_true rfl) (Or.inr ⟨_, _, 129, rfl, Or.inl rfl⟩) k43 rfl ?_
            refine go_ldc2 (pc' := 216) dX11_cross_213 rfl (r64_c rfl) rc_11_262 ?_
            refine go_lcmp (pc' := 217) dX11_cross_216 rfl ?_
            obtain ⟨j44, k45, h⟩ := bd h
            have k45J : Go none (Ev (d + 281)) mt229 225 [some (pvR 11 0 129), some (pvI x1), some (pvI x2), some (pvI x3), some (pvI j3), some (pvI y20), some (pvI y17), some (pvI y21), some (pvI (σ22 164 ((12 * x1) + y17))), some (pvI (σ22 164 ((12 * x2) + y21))), some (pvI j30), some (pvI j34), some (pvI j38)] [pvI j44, pvI y20] (true, n, e, v42.2) out := by
              obtain ⟨g46, h⟩ := gd h
              refine go_iadd (pc' := 226) dX11_cross_225 rfl g46 ?_
              refine go_istore (L' := [some (pvR 11 0 129), some (pvI x1), some (pvI x2), some (pvI x3), some (pvI j3), some (pvI (y20 + j44)), some (pvI y17), some (pvI y21), some (pvI (σ22 164 ((12 * x1) + y17))), some (pvI (σ22 164 ((12 * x2) + y21))), some (pvI j30), some (pvI j34), some (pvI j38)]) (pc' := 228) dX11_cross_226 rfl (Nat.le_of_ble_eq_true rfl) rfl ?_
              obtain ⟨g47, h⟩ := gd h
              refine go_iinc (L' := [some (pvR 11 0 129), some (pvI x1), some (pvI x2), some (pvI x3), some (pvI j3), some (pvI (y20 + j44)), some (pvI y17), some (pvI (y21 + 1)), some (pvI (σ22 164 ((12 * x1) + y17))), some (pvI (σ22 164 ((12 * x2) + y21))), some (pvI j30), some (pvI j34), some (pvI j38)]) (pc' := 231) dX11_cross_228 rfl rfl g47 rfl ?_
              refine go_goto (t := 79) dX11_cross_231 rfl ?_
              exact go_sub (ih (y20 + j44) (y21 + 1) v42.2 _ h hx) ⟨Or.inr rfl, Or.inr rfl, Or.inr rfl, Or.inr rfl, Or.inr rfl, Or.inr rfl, Or.inr rfl, Or.inr rfl, Or.inl rfl, Or.inl rfl, Or.inl rfl, Or.inl rfl, Or.inl rfl, trivial⟩
            clear h
            have h := k45
            refine go_if_eq (t := 224) (pc' := 220) dX11_cross_217 rfl rfl (fun c48 => ?_) (fun c48 => ?_)
            · rw [if_pos (show (lcm v42.1 (-9223372036854775808)) = 0 from c48)] at h
              refine go_iconst (pc' := 225) dX11_cross_224 rfl (r32_c rfl) ?_
              cases h
              exact k45J
            · rw [if_neg (show ¬ ((lcm v42.1 (-9223372036854775808)) = 0) from c48)] at h
              refine go_iconst (pc' := 221) dX11_cross_220 rfl (r32_c rfl) ?_
              refine go_goto (t := 225) dX11_cross_221 rfl ?_
              cases h
              exact k45J
          clear h
          have h := k39
          refine go_icmp_ne (t := 182) (pc' := 177) dX11_cross_174 rfl rfl (fun c49 => ?_) (fun c49 => ?_)
          · rw [if_pos (show x1 ≠ 2 from c49)] at h
            refine go_iload_n (pc' := 183) dX11_cross_182 rfl rfl ?_
            refine go_iconst (pc' := 184) dX11_cross_183 rfl (r32_c rfl) ?_
            refine go_icmp_ne (t := 192) (pc' := 187) dX11_cross_184 rfl rfl (fun c41 => ?_) (fun c41 => ?_)
            · rw [if_pos (show x2 ≠ 2 from c41)] at h
              refine go_aload_n (pc' := 193) dX11_cross_192 rfl rfl (Nat.le_of_ble_eq_true rfl) ?_
              refine go_getR (k' := 12) (L0 := 3) (P' := 163) (pc' := 196) dX11_cross_193 rfl rf_11_119 rfl rfl (by omega) ?_
              refine go_iconst (pc' := 197) dX11_cross_196 rfl (r32_c rfl) ?_
              obtain ⟨g40, h⟩ := gd h
              refine go_iald (pc' := 198) dX11_cross_197 rfl g40 ?_
              cases h
              exact k39J
            · rw [if_neg (show ¬ (x2 ≠ 2) from c41)] at h
              refine go_iload (pc' := 189) dX11_cross_187 rfl rfl ?_
              refine go_goto (t := 198) dX11_cross_189 rfl ?_
              cases h
              exact k39J
          · rw [if_neg (show ¬ (x1 ≠ 2) from c49)] at h
            refine go_iload (pc' := 179) dX11_cross_177 rfl rfl ?_
            refine go_goto (t := 198) dX11_cross_179 rfl ?_
            cases h
            exact k39J
        clear h
        have h := k35
        refine go_icmp_ne (t := 154) (pc' := 149) dX11_cross_146 rfl rfl (fun c50 => ?_) (fun c50 => ?_)
        · rw [if_pos (show x1 ≠ 1 from c50)] at h
          refine go_iload_n (pc' := 155) dX11_cross_154 rfl rfl ?_
          refine go_iconst (pc' := 156) dX11_cross_155 rfl (r32_c rfl) ?_
          refine go_icmp_ne (t := 164) (pc' := 159) dX11_cross_156 rfl rfl (fun c37 => ?_) (fun c37 => ?_)
          · rw [if_pos (show x2 ≠ 1 from c37)] at h
            refine go_aload_n (pc' := 165) dX11_cross_164 rfl rfl (Nat.le_of_ble_eq_true rfl) ?_
            refine go_getR (k' := 12) (L0 := 3) (P' := 163) (pc' := 168) dX11_cross_165 rfl rf_11_119 rfl rfl (by omega) ?_
            refine go_iconst (pc' := 169) dX11_cross_168 rfl (r32_c rfl) ?_
            obtain ⟨g36, h⟩ := gd h
            refine go_iald (pc' := 170) dX11_cross_169 rfl g36 ?_
            cases h
            exact k35J
          · rw [if_neg (show ¬ (x2 ≠ 1) from c37)] at h
            refine go_iload (pc' := 161) dX11_cross_159 rfl rfl ?_
            refine go_goto (t := 170) dX11_cross_161 rfl ?_
            cases h
            exact k35J
        · rw [if_neg (show ¬ (x1 ≠ 1) from c50)] at h
          refine go_iload (pc' := 151) dX11_cross_149 rfl rfl ?_
          refine go_goto (t := 170) dX11_cross_151 rfl ?_
          cases h
          exact k35J
      clear h
      have h := k31
      refine go_if_ne (t := 127) (pc' := 122) dX11_cross_119 rfl rfl (fun c51 => ?_) (fun c51 => ?_)
      · rw [if_pos (show x1 ≠ 0 from c51)] at h
        refine go_iload_n (pc' := 128) dX11_cross_127 rfl rfl ?_
        refine go_if_ne (t := 136) (pc' := 131) dX11_cross_128 rfl rfl (fun c33 => ?_) (fun c33 => ?_)
        · rw [if_pos (show x2 ≠ 0 from c33)] at h
          refine go_aload_n (pc' := 137) dX11_cross_136 rfl rfl (Nat.le_of_ble_eq_true rfl) ?_
          refine go_getR (k' := 12) (L0 := 3) (P' := 163) (pc' := 140) dX11_cross_137 rfl rf_11_119 rfl rfl (by omega) ?_
          refine go_iconst (pc' := 141) dX11_cross_140 rfl (r32_c rfl) ?_
          obtain ⟨g32, h⟩ := gd h
          refine go_iald (pc' := 142) dX11_cross_141 rfl g32 ?_
          cases h
          exact k31J
        · rw [if_neg (show ¬ (x2 ≠ 0) from c33)] at h
          refine go_iload (pc' := 133) dX11_cross_131 rfl rfl ?_
          refine go_goto (t := 142) dX11_cross_133 rfl ?_
          cases h
          exact k31J
      · rw [if_neg (show ¬ (x1 ≠ 0) from c51)] at h
        refine go_iload (pc' := 124) dX11_cross_122 rfl rfl ?_
        refine go_goto (t := 142) dX11_cross_124 rfl ?_
        cases h
        exact k31J

set_option maxRecDepth 10000 in
theorem l_M_cross_65 (d : Nat) (n : Nat) (e : Nat) (x1 : Int) (x2 : Int) (x3 : Int) (j3 : Int) {out : Out} : ∀ (F : Nat) (y16 : Int) (y17 : Int) (σ18 : Hp) (j58 : Int × Int × Hp), f_M_cross_65 x1 x2 x3 F y16 y17 σ18 = some j58 → Go none (Ev (d + 281)) mt229 240 [some (pvR 11 0 129), some (pvI x1), some (pvI x2), some (pvI x3), some (pvI j3), some (pvI j58.1), some (pvI j58.2.1), none, none, none, none, none, none] [] (true, n, e, j58.2.2) out → Go none (Ev (d + 281)) mt229 65 [some (pvR 11 0 129), some (pvI x1), some (pvI x2), some (pvI x3), some (pvI j3), some (pvI y16), some (pvI y17), none, none, none, none, none, none] [] (true, n, e, σ18) out := by
  intro F
  induction F with
  | zero =>
    intro _ _ _ _ h
    intro _
    rw [f_M_cross_65] at h
    cases h
  | succ F ih =>
    intro y16 y17 σ18 j58 h hx
    rw [f_M_cross_65] at h
    refine go_iload (pc' := 67) dX11_cross_65 rfl rfl ?_
    refine go_aload_n (pc' := 68) dX11_cross_67 rfl rfl (Nat.le_of_ble_eq_true rfl) ?_
    refine go_getR (k' := 12) (L0 := 3) (P' := 165) (pc' := 71) dX11_cross_68 rfl rf_11_125 rfl rfl (by omega) ?_
    refine go_iload_n (pc' := 72) dX11_cross_71 rfl rfl ?_
    obtain ⟨g19, h⟩ := gd h
    refine go_iald (pc' := 73) dX11_cross_72 rfl g19 ?_
    refine go_icmp_ge (t := 240) (pc' := 76) dX11_cross_73 rfl rfl (fun c57 => ?_) (fun c57 => ?_)
    · rw [if_pos (show (σ18 165 x1) ≤ y17 from c57)] at h
      cases h
      exact hx
    · rw [if_neg (show ¬ ((σ18 165 x1) ≤ y17) from c57)] at h
      refine go_iconst (pc' := 77) dX11_cross_76 rfl (r32_c rfl) ?_
      refine go_istore (L' := [some (pvR 11 0 129), some (pvI x1), some (pvI x2), some (pvI x3), some (pvI j3), some (pvI y16), some (pvI y17), some (pvI 0), none, none, none, none, none]) (pc' := 79) dX11_cross_77 rfl (Nat.le_of_ble_eq_true rfl) rfl ?_
      obtain ⟨j54, k55, h⟩ := bd h
      refine l_M_cross_79 d n e x1 x2 x3 j3 y17 zFuel y16 0 σ18 _ k55 ?_
      obtain ⟨g56, h⟩ := gd h
      refine go_iinc (L' := [some (pvR 11 0 129), some (pvI x1), some (pvI x2), some (pvI x3), some (pvI j3), some (pvI j54.1), some (pvI (y17 + 1)), some (pvI j54.2.1), none, none, none, none, none]) (pc' := 237) dX11_cross_234 rfl rfl g56 rfl ?_
      refine go_goto (t := 65) dX11_cross_237 rfl ?_
      exact go_sub (ih j54.1 (y17 + 1) j54.2.2 _ h hx) ⟨Or.inr rfl, Or.inr rfl, Or.inr rfl, Or.inr rfl, Or.inr rfl, Or.inr rfl, Or.inr rfl, Or.inl rfl, Or.inr rfl, Or.inr rfl, Or.inr rfl, Or.inr rfl, Or.inr rfl, trivial⟩

set_option maxRecDepth 10000 in
theorem l_M_cross (d : Nat) (n e : Nat) (σ : Hp) (x1 : Int) (x2 : Int) (x3 : Int) (r : Int × Hp) (h : f_M_cross σ x1 x2 x3 = some r) : Ev (d + 282) 229 [pvR 11 0 129, pvI x1, pvI x2, pvI x3] (true, n, e, σ) (0, some (pvI r.1), true, n, e, r.2) := by
  unfold f_M_cross at h
  refine Ev.of mtE229 rfl rfl rfl rfl ?_
  show Go none (Ev (d + 281)) mt229 0 [some (pvR 11 0 129), some (pvI x1), some (pvI x2), some (pvI x3), none, none, none, none, none, none, none, none, none] [] (true, n, e, σ) (0, some (pvI r.1), true, n, e, r.2)
  refine go_aload_n (pc' := 1) dX11_cross_0 rfl rfl (Nat.le_of_ble_eq_true rfl) ?_
  refine go_iload_n (pc' := 2) dX11_cross_1 rfl rfl ?_
  obtain ⟨v1, k2, h⟩ := bd h
  have k2 := l_M_isDim (d + 279) n e σ x1 _ k2
  refine go_call (kc := 171) (Mc := mt171) (v := some (pvI v1)) (w' := (true, n, e, σ)) (pc' := 5) (st' := [pvI v1]) [pvR 11 0 129, pvI x1] [] (Or.inl rfl) dX11_cross_2 rfl rm_11_149 mtE171 rfl rfl rfl (Nat.le_of_ble_eq_true rfl) (Or.inr ⟨_, _, 129, rfl, Or.inl rfl⟩) k2 rfl ?_
  obtain ⟨j3, k4, h⟩ := bd h
  have k4J : Go none (Ev (d + 281)) mt229 29 [some (pvR 11 0 129), some (pvI x1), some (pvI x2), some (pvI x3), none, none, none, none, none, none, none, none, none] [pvI j3] (true, n, e, σ) (0, some (pvI r.1), true, n, e, r.2) := by
    refine go_istore (L' := [some (pvR 11 0 129), some (pvI x1), some (pvI x2), some (pvI x3), some (pvI j3), none, none, none, none, none, none, none, none]) (pc' := 31) dX11_cross_29 rfl (Nat.le_of_ble_eq_true rfl) rfl ?_
    refine go_aload_n (pc' := 32) dX11_cross_31 rfl rfl (Nat.le_of_ble_eq_true rfl) ?_
    refine go_iload (pc' := 34) dX11_cross_32 rfl rfl ?_
    obtain ⟨j11, k12, h⟩ := bd h
    have k12J : Go none (Ev (d + 281)) mt229 51 [some (pvR 11 0 129), some (pvI x1), some (pvI x2), some (pvI x3), some (pvI j3), none, none, none, none, none, none, none, none] [pvI j11, pvR 11 0 129] (true, n, e, σ) (0, some (pvI r.1), true, n, e, r.2) := by
      obtain ⟨v14, k15, h⟩ := bd h
      have k15 := l_M_holds (d + 280) n e σ j11 _ k15
      refine go_call (kc := 174) (Mc := mt174) (v := some (pvI v14.1)) (w' := (true, n, e, v14.2)) (pc' := 54) (st' := [pvI v14.1]) [pvR 11 0 129, pvI j11] [] (Or.inl rfl) dX11_cross_51 rfl rm_11_185 mtE174 rfl rfl rfl (Nat.le_of_ble_eq_true rfl) (Or.inr ⟨_, _, 129, rfl, Or.inl rfl⟩) k15 rfl ?_
      refine go_if_eq (t := 59) (pc' := 57) dX11_cross_54 rfl rfl (fun c61 => ?_) (fun c61 => ?_)
      · rw [if_pos (show v14.1 = 0 from c61)] at h
        refine go_iconst (pc' := 60) dX11_cross_59 rfl (r32_c rfl) ?_
        refine go_istore (L' := [some (pvR 11 0 129), some (pvI x1), some (pvI x2), some (pvI x3), some (pvI j3), some (pvI 0), none, none, none, none, none, none, none]) (pc' := 62) dX11_cross_60 rfl (Nat.le_of_ble_eq_true rfl) rfl ?_
        refine go_iconst (pc' := 63) dX11_cross_62 rfl (r32_c rfl) ?_
        refine go_istore (L' := [some (pvR 11 0 129), some (pvI x1), some (pvI x2), some (pvI x3), some (pvI j3), some (pvI 0), some (pvI 0), none, none, none, none, none, none]) (pc' := 65) dX11_cross_63 rfl (Nat.le_of_ble_eq_true rfl) rfl ?_
        obtain ⟨j59, k60, h⟩ := bd h
        refine l_M_cross_65 d n e x1 x2 x3 j3 zFuel 0 0 v14.2 _ k60 ?_
        refine go_iload (pc' := 242) dX11_cross_240 rfl rfl ?_
        cases h
        exact go_iret dX11_cross_242 rfl rfl
      · rw [if_neg (show ¬ (v14.1 = 0) from c61)] at h
        refine go_iconst (pc' := 58) dX11_cross_57 rfl (r32_c rfl) ?_
        cases h
        exact go_iret dX11_cross_58 rfl rfl
    clear h
    have h := k12
    refine go_if_ne (t := 41) (pc' := 37) dX11_cross_34 rfl rfl (fun c62 => ?_) (fun c62 => ?_)
    · rw [if_pos (show j3 ≠ 0 from c62)] at h
      refine go_iload_n (pc' := 42) dX11_cross_41 rfl rfl ?_
      refine go_iload_n (pc' := 43) dX11_cross_42 rfl rfl ?_
      refine go_icmp_ne (t := 50) (pc' := 46) dX11_cross_43 rfl rfl (fun c13 => ?_) (fun c13 => ?_)
      · rw [if_pos (show x1 ≠ x2 from c13)] at h
        refine go_iconst (pc' := 51) dX11_cross_50 rfl (r32_c rfl) ?_
        cases h
        exact k12J
      · rw [if_neg (show ¬ (x1 ≠ x2) from c13)] at h
        refine go_iconst (pc' := 47) dX11_cross_46 rfl (r32_c rfl) ?_
        refine go_goto (t := 51) dX11_cross_47 rfl ?_
        cases h
        exact k12J
    · rw [if_neg (show ¬ (j3 ≠ 0) from c62)] at h
      refine go_iconst (pc' := 38) dX11_cross_37 rfl (r32_c rfl) ?_
      refine go_goto (t := 51) dX11_cross_38 rfl ?_
      cases h
      exact k12J
  clear h
  have h := k4
  refine go_if_eq (t := 28) (pc' := 8) dX11_cross_5 rfl rfl (fun c63 => ?_) (fun c63 => ?_)
  · rw [if_pos (show v1 = 0 from c63)] at h
    refine go_iconst (pc' := 29) dX11_cross_28 rfl (r32_c rfl) ?_
    cases h
    exact k4J
  · rw [if_neg (show ¬ (v1 = 0) from c63)] at h
    refine go_aload_n (pc' := 9) dX11_cross_8 rfl rfl (Nat.le_of_ble_eq_true rfl) ?_
    refine go_iload_n (pc' := 10) dX11_cross_9 rfl rfl ?_
    obtain ⟨v5, k6, h⟩ := bd h
    have k6 := l_M_isDim (d + 279) n e σ x2 _ k6
    refine go_call (kc := 171) (Mc := mt171) (v := some (pvI v5)) (w' := (true, n, e, σ)) (pc' := 13) (st' := [pvI v5]) [pvR 11 0 129, pvI x2] [] (Or.inl rfl) dX11_cross_10 rfl rm_11_149 mtE171 rfl rfl rfl (Nat.le_of_ble_eq_true rfl) (Or.inr ⟨_, _, 129, rfl, Or.inl rfl⟩) k6 rfl ?_
    refine go_if_eq (t := 28) (pc' := 16) dX11_cross_13 rfl rfl (fun c10 => ?_) (fun c10 => ?_)
    · rw [if_pos (show v5 = 0 from c10)] at h
      refine go_iconst (pc' := 29) dX11_cross_28 rfl (r32_c rfl) ?_
      cases h
      exact k4J
    · rw [if_neg (show ¬ (v5 = 0) from c10)] at h
      refine go_aload_n (pc' := 17) dX11_cross_16 rfl rfl (Nat.le_of_ble_eq_true rfl) ?_
      refine go_iload_n (pc' := 18) dX11_cross_17 rfl rfl ?_
      obtain ⟨v7, k8, h⟩ := bd h
      have k8 := l_M_isMeasure (d + 279) n e σ x3 _ k8
      refine go_call (kc := 193) (Mc := mt193) (v := some (pvI v7)) (w' := (true, n, e, σ)) (pc' := 21) (st' := [pvI v7]) [pvR 11 0 129, pvI x3] [] (Or.inl rfl) dX11_cross_18 rfl rm_11_160 mtE193 rfl rfl rfl (Nat.le_of_ble_eq_true rfl) (Or.inr ⟨_, _, 129, rfl, Or.inl rfl⟩) k8 rfl ?_
      refine go_if_eq (t := 28) (pc' := 24) dX11_cross_21 rfl rfl (fun c9 => ?_) (fun c9 => ?_)
      · rw [if_pos (show v7 = 0 from c9)] at h
        refine go_iconst (pc' := 29) dX11_cross_28 rfl (r32_c rfl) ?_
        cases h
        exact k4J
      · rw [if_neg (show ¬ (v7 = 0) from c9)] at h
        refine go_iconst (pc' := 25) dX11_cross_24 rfl (r32_c rfl) ?_
        refine go_goto (t := 29) dX11_cross_25 rfl ?_
        cases h
        exact k4J

set_option maxRecDepth 10000 in
theorem l_M_spots_9 (d : Nat) (n : Nat) (e : Nat) (x1 : Int) (x2 : Int) (x3 : Int) (x4 : Int) {out : Out} : ∀ (F : Nat) (y1 : Int) (y2 : Int) (y3 : Int) (σ4 : Hp) (j22 : Int × Int × Int × Hp), f_M_spots_9 x1 x2 x3 x4 F y1 y2 y3 σ4 = some j22 → Go none (Ev (d + 4)) mt231 96 [some (pvR 11 0 129), some (pvI x1), some (pvI x2), some (pvI x3), some (pvI x4), some (pvI j22.1), some (pvI j22.2.1), some (pvI j22.2.2.1), none] [] (true, n, e, j22.2.2.2) out → Go none (Ev (d + 4)) mt231 9 [some (pvR 11 0 129), some (pvI x1), some (pvI x2), some (pvI x3), some (pvI x4), some (pvI y1), some (pvI y2), some (pvI y3), none] [] (true, n, e, σ4) out := by
  intro F
  induction F with
  | zero =>
    intro _ _ _ _ _ h
    intro _
    rw [f_M_spots_9] at h
    cases h
  | succ F ih =>
    intro y1 y2 y3 σ4 j22 h hx
    rw [f_M_spots_9] at h
    refine go_iload (pc' := 11) dX11_spots_9 rfl rfl ?_
    refine go_aload_n (pc' := 12) dX11_spots_11 rfl rfl (Nat.le_of_ble_eq_true rfl) ?_
    refine go_getI (pc' := 15) dX11_spots_12 rfl rf_11_230 rfl ?_
    refine go_icmp_ge (t := 96) (pc' := 18) dX11_spots_15 rfl rfl (fun c21 => ?_) (fun c21 => ?_)
    · rw [if_pos (show (σ4 129 29) ≤ y3 from c21)] at h
      cases h
      exact hx
    · rw [if_neg (show ¬ ((σ4 129 29) ≤ y3) from c21)] at h
      refine go_aload_n (pc' := 19) dX11_spots_18 rfl rfl (Nat.le_of_ble_eq_true rfl) ?_
      refine go_getR (k' := 12) (L0 := 51) (P' := 153) (pc' := 22) dX11_spots_19 rfl rf_11_81 rfl rfl (by omega) ?_
      refine go_iload (pc' := 24) dX11_spots_22 rfl rfl ?_
      obtain ⟨g5, h⟩ := gd h
      refine go_iald (pc' := 25) dX11_spots_24 rfl g5 ?_
      refine go_iload (pc' := 27) dX11_spots_25 rfl rfl ?_
      obtain ⟨j6, k7, h⟩ := bd h
      have k7J : Go none (Ev (d + 4)) mt231 43 [some (pvR 11 0 129), some (pvI x1), some (pvI x2), some (pvI x3), some (pvI x4), some (pvI y1), some (pvI y2), some (pvI y3), none] [pvI j6] (true, n, e, σ4) out := by
        refine go_istore (L' := [some (pvR 11 0 129), some (pvI x1), some (pvI x2), some (pvI x3), some (pvI x4), some (pvI y1), some (pvI y2), some (pvI y3), some (pvI j6)]) (pc' := 45) dX11_spots_43 rfl (Nat.le_of_ble_eq_true rfl) rfl ?_
        refine go_aload_n (pc' := 46) dX11_spots_45 rfl rfl (Nat.le_of_ble_eq_true rfl) ?_
        refine go_getR (k' := 12) (L0 := 51) (P' := 167) (pc' := 49) dX11_spots_46 rfl rf_11_131 rfl rfl (by omega) ?_
        refine go_iload (pc' := 51) dX11_spots_49 rfl rfl ?_
        refine go_iload (pc' := 53) dX11_spots_51 rfl rfl ?_
        obtain ⟨g10, h⟩ := gd h
        refine go_iast (pc' := 54) dX11_spots_53 rfl g10 ?_
        refine go_iload (pc' := 56) dX11_spots_54 rfl rfl ?_
        refine go_iload (pc' := 58) dX11_spots_56 rfl rfl ?_
        obtain ⟨j11, k12, h⟩ := bd h
        have k12J : Go none (Ev (d + 4)) mt231 66 [some (pvR 11 0 129), some (pvI x1), some (pvI x2), some (pvI x3), some (pvI x4), some (pvI y1), some (pvI y2), some (pvI y3), some (pvI j6)] [pvI j11, pvI y1] (true, n, e, (hset σ4 167 y1 y3)) out := by
          obtain ⟨g13, h⟩ := gd h
          refine go_iadd (pc' := 67) dX11_spots_66 rfl g13 ?_
          refine go_istore (L' := [some (pvR 11 0 129), some (pvI x1), some (pvI x2), some (pvI x3), some (pvI x4), some (pvI (y1 + j11)), some (pvI y2), some (pvI y3), some (pvI j6)]) (pc' := 69) dX11_spots_67 rfl (Nat.le_of_ble_eq_true rfl) rfl ?_
          refine go_iload (pc' := 71) dX11_spots_69 rfl rfl ?_
          refine go_iload (pc' := 73) dX11_spots_71 rfl rfl ?_
          obtain ⟨j14, k15, h⟩ := bd h
          have k15J : Go none (Ev (d + 4)) mt231 87 [some (pvR 11 0 129), some (pvI x1), some (pvI x2), some (pvI x3), some (pvI x4), some (pvI (y1 + j11)), some (pvI y2), some (pvI y3), some (pvI j6)] [pvI j14, pvI y2] (true, n, e, (hset σ4 167 y1 y3)) out := by
            refine go_iand (pc' := 88) dX11_spots_87 rfl ?_
            refine go_istore (L' := [some (pvR 11 0 129), some (pvI x1), some (pvI x2), some (pvI x3), some (pvI x4), some (pvI (y1 + j11)), some (pvI (iand y2 j14)), some (pvI y3), some (pvI j6)]) (pc' := 90) dX11_spots_88 rfl (Nat.le_of_ble_eq_true rfl) rfl ?_
            obtain ⟨g17, h⟩ := gd h
            refine go_iinc (L' := [some (pvR 11 0 129), some (pvI x1), some (pvI x2), some (pvI x3), some (pvI x4), some (pvI (y1 + j11)), some (pvI (iand y2 j14)), some (pvI (y3 + 1)), some (pvI j6)]) (pc' := 93) dX11_spots_90 rfl rfl g17 rfl ?_
            refine go_goto (t := 9) dX11_spots_93 rfl ?_
            exact go_sub (ih (y1 + j11) (iand y2 j14) (y3 + 1) (hset σ4 167 y1 y3) _ h hx) ⟨Or.inr rfl, Or.inr rfl, Or.inr rfl, Or.inr rfl, Or.inr rfl, Or.inr rfl, Or.inr rfl, Or.inr rfl, Or.inl rfl, trivial⟩
          clear h
          have h := k15
          refine go_if_eq (t := 82) (pc' := 76) dX11_spots_73 rfl rfl (fun c18 => ?_) (fun c18 => ?_)
          · rw [if_pos (show j6 = 0 from c18)] at h
            refine go_iconst (pc' := 83) dX11_spots_82 rfl (r32_c rfl) ?_
            refine go_goto (t := 87) dX11_spots_83 rfl ?_
            cases h
            exact k15J
          · rw [if_neg (show ¬ (j6 = 0) from c18)] at h
            refine go_iload (pc' := 78) dX11_spots_76 rfl rfl ?_
            refine go_iconst (pc' := 79) dX11_spots_78 rfl (r32_c rfl) ?_
            refine go_icmp_ne (t := 86) (pc' := 82) dX11_spots_79 rfl rfl (fun c16 => ?_) (fun c16 => ?_)
            · rw [if_pos (show j6 ≠ 1 from c16)] at h
              refine go_iconst (pc' := 87) dX11_spots_86 rfl (r32_c rfl) ?_
              cases h
              exact k15J
            · rw [if_neg (show ¬ (j6 ≠ 1) from c16)] at h
              refine go_iconst (pc' := 83) dX11_spots_82 rfl (r32_c rfl) ?_
              refine go_goto (t := 87) dX11_spots_83 rfl ?_
              cases h
              exact k15J
        clear h
        have h := k12
        refine go_if_eq (t := 65) (pc' := 61) dX11_spots_58 rfl rfl (fun c19 => ?_) (fun c19 => ?_)
        · rw [if_pos (show j6 = 0 from c19)] at h
          refine go_iconst (pc' := 66) dX11_spots_65 rfl (r32_c rfl) ?_
          cases h
          exact k12J
        · rw [if_neg (show ¬ (j6 = 0) from c19)] at h
          refine go_iconst (pc' := 62) dX11_spots_61 rfl (r32_c rfl) ?_
          refine go_goto (t := 66) dX11_spots_62 rfl ?_
          cases h
          exact k12J
      clear h
      have h := k7
      refine go_icmp_ne (t := 42) (pc' := 30) dX11_spots_27 rfl rfl (fun c20 => ?_) (fun c20 => ?_)
      · rw [if_pos (show (σ4 153 y3) ≠ x4 from c20)] at h
        refine go_iconst (pc' := 43) dX11_spots_42 rfl (r32_c rfl) ?_
        cases h
        exact k7J
      · rw [if_neg (show ¬ ((σ4 153 y3) ≠ x4) from c20)] at h
        refine go_aload_n (pc' := 31) dX11_spots_30 rfl rfl (Nat.le_of_ble_eq_true rfl) ?_
        refine go_iload (pc' := 33) dX11_spots_31 rfl rfl ?_
        refine go_iload_n (pc' := 34) dX11_spots_33 rfl rfl ?_
        refine go_iload_n (pc' := 35) dX11_spots_34 rfl rfl ?_
        refine go_iload_n (pc' := 36) dX11_spots_35 rfl rfl ?_
        obtain ⟨v8, k9, h⟩ := bd h
        have k9 := l_M_counts (d + 0) n e σ4 y3 x1 x2 x3 _ k9
        refine go_call (kc := 202) (Mc := mt202) (v := some (pvI v8)) (w' := (true, n, e, σ4)) (pc' := 39) (st' := [pvI v8]) [pvR 11 0 129, pvI y3, pvI x1, pvI x2, pvI x3] [] (Or.inl rfl) dX11_spots_36 rfl rm_11_259 mtE202 rfl rfl rfl (Nat.le_of_ble_eq_true rfl) (Or.inr ⟨_, _, 129, rfl, Or.inl rfl⟩) k9 rfl ?_
        refine go_goto (t := 43) dX11_spots_39 rfl ?_
        cases h
        exact k7J

set_option maxRecDepth 10000 in
theorem l_M_spots (d : Nat) (n e : Nat) (σ : Hp) (x1 : Int) (x2 : Int) (x3 : Int) (x4 : Int) (r : Int × Hp) (h : f_M_spots σ x1 x2 x3 x4 = some r) : Ev (d + 5) 231 [pvR 11 0 129, pvI x1, pvI x2, pvI x3, pvI x4] (true, n, e, σ) (0, some (pvI r.1), true, n, e, r.2) := by
  unfold f_M_spots at h
  refine Ev.of mtE231 rfl rfl rfl rfl ?_
  show Go none (Ev (d + 4)) mt231 0 [some (pvR 11 0 129), some (pvI x1), some (pvI x2), some (pvI x3), some (pvI x4), none, none, none, none] [] (true, n, e, σ) (0, some (pvI r.1), true, n, e, r.2)
  refine go_iconst (pc' := 1) dX11_spots_0 rfl (r32_c rfl) ?_
  refine go_istore (L' := [some (pvR 11 0 129), some (pvI x1), some (pvI x2), some (pvI x3), some (pvI x4), some (pvI 0), none, none, none]) (pc' := 3) dX11_spots_1 rfl (Nat.le_of_ble_eq_true rfl) rfl ?_
  refine go_iconst (pc' := 4) dX11_spots_3 rfl (r32_c rfl) ?_
  refine go_istore (L' := [some (pvR 11 0 129), some (pvI x1), some (pvI x2), some (pvI x3), some (pvI x4), some (pvI 0), some (pvI 1), none, none]) (pc' := 6) dX11_spots_4 rfl (Nat.le_of_ble_eq_true rfl) rfl ?_
  refine go_iconst (pc' := 7) dX11_spots_6 rfl (r32_c rfl) ?_
  refine go_istore (L' := [some (pvR 11 0 129), some (pvI x1), some (pvI x2), some (pvI x3), some (pvI x4), some (pvI 0), some (pvI 1), some (pvI 0), none]) (pc' := 9) dX11_spots_7 rfl (Nat.le_of_ble_eq_true rfl) rfl ?_
  obtain ⟨j23, k24, h⟩ := bd h
  refine l_M_spots_9 d n e x1 x2 x3 x4 zFuel 0 1 0 σ _ k24 ?_
  refine go_iload (pc' := 98) dX11_spots_96 rfl rfl ?_
  obtain ⟨j25, k26, h⟩ := bd h
  have k26J : Go none (Ev (d + 4)) mt231 107 [some (pvR 11 0 129), some (pvI x1), some (pvI x2), some (pvI x3), some (pvI x4), some (pvI j23.1), some (pvI j23.2.1), some (pvI j23.2.2.1), none] [pvI j25] (true, n, e, j23.2.2.2) (0, some (pvI r.1), true, n, e, r.2) := by
    cases h
    exact go_iret dX11_spots_107 rfl rfl
  clear h
  have h := k26
  refine go_if_eq (t := 106) (pc' := 101) dX11_spots_98 rfl rfl (fun c27 => ?_) (fun c27 => ?_)
  · rw [if_pos (show j23.2.1 = 0 from c27)] at h
    refine go_iconst (pc' := 107) dX11_spots_106 rfl (r32_c rfl) ?_
    cases h
    exact k26J
  · rw [if_neg (show ¬ (j23.2.1 = 0) from c27)] at h
    refine go_iload (pc' := 103) dX11_spots_101 rfl rfl ?_
    refine go_goto (t := 107) dX11_spots_103 rfl ?_
    cases h
    exact k26J

set_option maxRecDepth 10000 in
theorem l_M_equal_3 (d : Nat) (n : Nat) (e : Nat) (x1 : Int) (x2 : Int) {out : Out} : ∀ (F : Nat) (y1 : Int) (σ2 : Hp) (j12 : Int × Hp), f_M_equal_3 x1 x2 F y1 σ2 = some j12 → Go none (Ev (d + 0)) mt232 44 [some (pvR 11 0 129), some (pvI x1), some (pvL x2), none, some (pvI j12.1)] [] (true, n, e, j12.2) out → Go none (Ev (d + 0)) mt232 3 [some (pvR 11 0 129), some (pvI x1), some (pvL x2), none, some (pvI y1)] [] (true, n, e, σ2) out := by
  intro F
  induction F with
  | zero =>
    intro _ _ _ h
    intro _
    rw [f_M_equal_3] at h
    cases h
  | succ F ih =>
    intro y1 σ2 j12 h hx
    rw [f_M_equal_3] at h
    refine go_iload (pc' := 5) dX11_equal_3 rfl rfl ?_
    refine go_iload_n (pc' := 6) dX11_equal_5 rfl rfl ?_
    refine go_icmp_ge (t := 44) (pc' := 9) dX11_equal_6 rfl rfl (fun c11 => ?_) (fun c11 => ?_)
    · rw [if_pos (show x1 ≤ y1 from c11)] at h
      cases h
      exact hx
    · rw [if_neg (show ¬ (x1 ≤ y1) from c11)] at h
      refine go_aload_n (pc' := 10) dX11_equal_9 rfl rfl (Nat.le_of_ble_eq_true rfl) ?_
      refine go_getR (k' := 13) (L0 := 51) (P' := 168) (pc' := 13) dX11_equal_10 rfl rf_11_134 rfl rfl (by omega) ?_
      refine go_iload (pc' := 15) dX11_equal_13 rfl rfl ?_
      refine go_lload_n (pc' := 16) dX11_equal_15 rfl rfl ?_
      refine go_iload_n (pc' := 17) dX11_equal_16 rfl rfl ?_
      refine go_i2l (pc' := 18) dX11_equal_17 rfl ?_
      obtain ⟨g3, h⟩ := gd h
      refine go_ldiv (pc' := 19) dX11_equal_18 rfl g3 ?_
      refine go_iload (pc' := 21) dX11_equal_19 rfl rfl ?_
      refine go_i2l (pc' := 22) dX11_equal_21 rfl ?_
      refine go_lload_n (pc' := 23) dX11_equal_22 rfl rfl ?_
      refine go_iload_n (pc' := 24) dX11_equal_23 rfl rfl ?_
      refine go_i2l (pc' := 25) dX11_equal_24 rfl ?_
      obtain ⟨g4, h⟩ := gd h
      refine go_lrem (pc' := 26) dX11_equal_25 rfl g4 ?_
      refine go_lcmp (pc' := 27) dX11_equal_26 rfl ?_
      obtain ⟨j5, k6, h⟩ := bd h
      have k6J : Go none (Ev (d + 0)) mt232 35 [some (pvR 11 0 129), some (pvI x1), some (pvL x2), none, some (pvI y1)] [pvI j5, pvL (Int.tdiv x2 x1), pvI y1, pvR 13 51 168] (true, n, e, σ2) out := by
        refine go_i2l (pc' := 36) dX11_equal_35 rfl ?_
        obtain ⟨g7, h⟩ := gd h
        refine go_ladd (pc' := 37) dX11_equal_36 rfl g7 ?_
        obtain ⟨g8, h⟩ := gd h
        refine go_last (pc' := 38) dX11_equal_37 rfl g8 ?_
        obtain ⟨g9, h⟩ := gd h
        refine go_iinc (L' := [some (pvR 11 0 129), some (pvI x1), some (pvL x2), none, some (pvI (y1 + 1))]) (pc' := 41) dX11_equal_38 rfl rfl g9 rfl ?_
        refine go_goto (t := 3) dX11_equal_41 rfl ?_
        exact ih (y1 + 1) (hset σ2 168 y1 ((Int.tdiv x2 x1) + j5)) _ h hx
      clear h
      have h := k6
      refine go_if_ge (t := 34) (pc' := 30) dX11_equal_27 rfl rfl (fun c10 => ?_) (fun c10 => ?_)
      · rw [if_pos (show 0 ≤ (lcm y1 (Int.tmod x2 x1)) from c10)] at h
        refine go_iconst (pc' := 35) dX11_equal_34 rfl (r32_c rfl) ?_
        cases h
        exact k6J
      · rw [if_neg (show ¬ (0 ≤ (lcm y1 (Int.tmod x2 x1))) from c10)] at h
        refine go_iconst (pc' := 31) dX11_equal_30 rfl (r32_c rfl) ?_
        refine go_goto (t := 35) dX11_equal_31 rfl ?_
        cases h
        exact k6J

set_option maxRecDepth 10000 in
theorem l_M_equal (d : Nat) (n e : Nat) (σ : Hp) (x1 : Int) (x2 : Int) (r : Hp) (h : f_M_equal σ x1 x2 = some r) : Ev (d + 1) 232 [pvR 11 0 129, pvI x1, pvL x2] (true, n, e, σ) (0, none, true, n, e, r) := by
  unfold f_M_equal at h
  refine Ev.of mtE232 rfl rfl rfl rfl ?_
  show Go none (Ev (d + 0)) mt232 0 [some (pvR 11 0 129), some (pvI x1), some (pvL x2), none, none] [] (true, n, e, σ) (0, none, true, n, e, r)
  refine go_iconst (pc' := 1) dX11_equal_0 rfl (r32_c rfl) ?_
  refine go_istore (L' := [some (pvR 11 0 129), some (pvI x1), some (pvL x2), none, some (pvI 0)]) (pc' := 3) dX11_equal_1 rfl (Nat.le_of_ble_eq_true rfl) rfl ?_
  obtain ⟨j13, k14, h⟩ := bd h
  refine l_M_equal_3 d n e x1 x2 zFuel 0 σ _ k14 ?_
  cases h
  exact go_vret dX11_equal_44 rfl rfl

