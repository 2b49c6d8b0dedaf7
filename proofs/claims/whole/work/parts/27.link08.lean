/-! ===== links: each function is what its bytecode does ===== -/
set_option maxRecDepth 10000 in
theorem l_M_lay (d : Nat) (n e : Nat) (σ : Hp) (x1 : Int) (x2 : Int) (x3 : Int) (x4 : Int) (x5 : Int) (x6 : Int) (r : Hp) (h : f_M_lay σ x1 x2 x3 x4 x5 x6 = some r) : Ev (d + 1) 199 [pvR 11 0 129, pvI x1, pvI x2, pvI x3, pvI x4, pvI x5, pvI x6] (true, n, e, σ) (0, none, true, n, e, r) := by
  unfold f_M_lay at h
  refine Ev.of mtE199 rfl rfl rfl rfl ?_
  show Go none (Ev (d + 0)) mt199 0 [some (pvR 11 0 129), some (pvI x1), some (pvI x2), some (pvI x3), some (pvI x4), some (pvI x5), some (pvI x6)] [] (true, n, e, σ) (0, none, true, n, e, r)
  refine go_aload_n (pc' := 1) dX11_lay_0 rfl rfl (Nat.le_of_ble_eq_true rfl) ?_
  refine go_getR (k' := 12) (L0 := 51) (P' := 150) (pc' := 4) dX11_lay_1 rfl rf_11_72 rfl rfl (by omega) ?_
  refine go_iload_n (pc' := 5) dX11_lay_4 rfl rfl ?_
  refine go_iload_n (pc' := 6) dX11_lay_5 rfl rfl ?_
  obtain ⟨g1, h⟩ := gd h
  refine go_iast (pc' := 7) dX11_lay_6 rfl g1 ?_
  refine go_aload_n (pc' := 8) dX11_lay_7 rfl rfl (Nat.le_of_ble_eq_true rfl) ?_
  refine go_getR (k' := 12) (L0 := 51) (P' := 151) (pc' := 11) dX11_lay_8 rfl rf_11_75 rfl rfl (by omega) ?_
  refine go_iload_n (pc' := 12) dX11_lay_11 rfl rfl ?_
  refine go_iload_n (pc' := 13) dX11_lay_12 rfl rfl ?_
  obtain ⟨g2, h⟩ := gd h
  refine go_iast (pc' := 14) dX11_lay_13 rfl g2 ?_
  refine go_aload_n (pc' := 15) dX11_lay_14 rfl rfl (Nat.le_of_ble_eq_true rfl) ?_
  refine go_getR (k' := 12) (L0 := 51) (P' := 152) (pc' := 18) dX11_lay_15 rfl rf_11_78 rfl rfl (by omega) ?_
  refine go_iload_n (pc' := 19) dX11_lay_18 rfl rfl ?_
  refine go_iload (pc' := 21) dX11_lay_19 rfl rfl ?_
  obtain ⟨g3, h⟩ := gd h
  refine go_iast (pc' := 22) dX11_lay_21 rfl g3 ?_
  refine go_aload_n (pc' := 23) dX11_lay_22 rfl rfl (Nat.le_of_ble_eq_true rfl) ?_
  refine go_getR (k' := 12) (L0 := 51) (P' := 153) (pc' := 26) dX11_lay_23 rfl rf_11_81 rfl rfl (by omega) ?_
  refine go_iload_n (pc' := 27) dX11_lay_26 rfl rfl ?_
  refine go_iload (pc' := 29) dX11_lay_27 rfl rfl ?_
  obtain ⟨g4, h⟩ := gd h
  refine go_iast (pc' := 30) dX11_lay_29 rfl g4 ?_
  refine go_aload_n (pc' := 31) dX11_lay_30 rfl rfl (Nat.le_of_ble_eq_true rfl) ?_
  refine go_getR (k' := 12) (L0 := 51) (P' := 154) (pc' := 34) dX11_lay_31 rfl rf_11_84 rfl rfl (by omega) ?_
  refine go_iload_n (pc' := 35) dX11_lay_34 rfl rfl ?_
  refine go_iload (pc' := 37) dX11_lay_35 rfl rfl ?_
  obtain ⟨g5, h⟩ := gd h
  refine go_iast (pc' := 38) dX11_lay_37 rfl g5 ?_
  cases h
  exact go_vret dX11_lay_38 rfl rfl

set_option maxRecDepth 10000 in
theorem l_M_needs_7 (d : Nat) (n : Nat) (e : Nat) (σ : Hp) (x1 : Int) (x2 : Int) {out : Out} : ∀ (F : Nat) (y1 : Int) (y2 : Int) (j15 : Int × Int), f_M_needs_7 σ F y1 y2 = some j15 → Go none (Ev (d + 0)) mt201 77 [some (pvR 11 0 129), some (pvI x1), some (pvI x2), some (pvI j15.1), some (pvI j15.2), none] [] (true, n, e, σ) out → Go none (Ev (d + 0)) mt201 7 [some (pvR 11 0 129), some (pvI x1), some (pvI x2), some (pvI y1), some (pvI y2), none] [] (true, n, e, σ) out := by
  intro F
  induction F with
  | zero =>
    intro _ _ _ h
    intro _
    rw [f_M_needs_7] at h
    cases h
  | succ F ih =>
    intro y1 y2 j15 h hx
    rw [f_M_needs_7] at h
    refine go_iload (pc' := 9) dX11_needs_7 rfl rfl ?_
    refine go_if_lt (t := 77) (pc' := 12) dX11_needs_9 rfl rfl (fun c14 => ?_) (fun c14 => ?_)
    · rw [if_pos (show y2 < 0 from c14)] at h
      cases h
      exact hx
    · rw [if_neg (show ¬ (y2 < 0) from c14)] at h
      refine go_iload_n (pc' := 13) dX11_needs_12 rfl rfl ?_
      refine go_iload (pc' := 15) dX11_needs_13 rfl rfl ?_
      refine go_ishr (pc' := 16) dX11_needs_15 rfl ?_
      refine go_iconst (pc' := 17) dX11_needs_16 rfl (r32_c rfl) ?_
      refine go_iand (pc' := 18) dX11_needs_17 rfl ?_
      refine go_iconst (pc' := 19) dX11_needs_18 rfl (r32_c rfl) ?_
      obtain ⟨j3, k4, h⟩ := bd h
      have k4J : Go none (Ev (d + 0)) mt201 38 [some (pvR 11 0 129), some (pvI x1), some (pvI x2), some (pvI y1), some (pvI y2), none] [pvI j3] (true, n, e, σ) out := by
        refine go_istore (L' := [some (pvR 11 0 129), some (pvI x1), some (pvI x2), some (pvI y1), some (pvI y2), some (pvI j3)]) (pc' := 40) dX11_needs_38 rfl (Nat.le_of_ble_eq_true rfl) rfl ?_
        refine go_iload_n (pc' := 41) dX11_needs_40 rfl rfl ?_
        refine go_iload (pc' := 43) dX11_needs_41 rfl rfl ?_
        obtain ⟨j7, k8, h⟩ := bd h
        have k8J : Go none (Ev (d + 0)) mt201 69 [some (pvR 11 0 129), some (pvI x1), some (pvI x2), some (pvI y1), some (pvI y2), some (pvI j3)] [pvI j7, pvI y1] (true, n, e, σ) out := by
          refine go_ior (pc' := 70) dX11_needs_69 rfl ?_
          refine go_istore_n (L' := [some (pvR 11 0 129), some (pvI x1), some (pvI x2), some (pvI (ior y1 j7)), some (pvI y2), some (pvI j3)]) (pc' := 71) dX11_needs_70 rfl (Nat.le_of_ble_eq_true rfl) rfl ?_
          obtain ⟨g11, h⟩ := gd h
          refine go_iinc (L' := [some (pvR 11 0 129), some (pvI x1), some (pvI x2), some (pvI (ior y1 j7)), some (pvI (y2 + (-1))), some (pvI j3)]) (pc' := 74) dX11_needs_71 rfl rfl g11 rfl ?_
          refine go_goto (t := 7) dX11_needs_74 rfl ?_
          exact go_sub (ih (ior y1 j7) (y2 + (-1)) _ h hx) ⟨Or.inr rfl, Or.inr rfl, Or.inr rfl, Or.inr rfl, Or.inr rfl, Or.inl rfl, trivial⟩
        clear h
        have h := k8
        refine go_if_eq (t := 68) (pc' := 46) dX11_needs_43 rfl rfl (fun c12 => ?_) (fun c12 => ?_)
        · rw [if_pos (show j3 = 0 from c12)] at h
          refine go_iconst (pc' := 69) dX11_needs_68 rfl (r32_c rfl) ?_
          cases h
          exact k8J
        · rw [if_neg (show ¬ (j3 = 0) from c12)] at h
          refine go_iconst (pc' := 47) dX11_needs_46 rfl (r32_c rfl) ?_
          refine go_aload_n (pc' := 48) dX11_needs_47 rfl rfl (Nat.le_of_ble_eq_true rfl) ?_
          refine go_getR (k' := 12) (L0 := 4) (P' := 147) (pc' := 51) dX11_needs_48 rfl rf_11_63 rfl rfl (by omega) ?_
          refine go_iload (pc' := 53) dX11_needs_51 rfl rfl ?_
          obtain ⟨g9, h⟩ := gd h
          refine go_iald (pc' := 54) dX11_needs_53 rfl g9 ?_
          refine go_ishl (pc' := 55) dX11_needs_54 rfl ?_
          refine go_iconst (pc' := 56) dX11_needs_55 rfl (r32_c rfl) ?_
          refine go_aload_n (pc' := 57) dX11_needs_56 rfl rfl (Nat.le_of_ble_eq_true rfl) ?_
          refine go_getR (k' := 12) (L0 := 4) (P' := 148) (pc' := 60) dX11_needs_57 rfl rf_11_66 rfl rfl (by omega) ?_
          refine go_iload (pc' := 62) dX11_needs_60 rfl rfl ?_
          obtain ⟨g10, h⟩ := gd h
          refine go_iald (pc' := 63) dX11_needs_62 rfl g10 ?_
          refine go_ishl (pc' := 64) dX11_needs_63 rfl ?_
          refine go_ior (pc' := 65) dX11_needs_64 rfl ?_
          refine go_goto (t := 69) dX11_needs_65 rfl ?_
          cases h
          exact k8J
      clear h
      have h := k4
      refine go_icmp_ne (t := 37) (pc' := 22) dX11_needs_19 rfl rfl (fun c13 => ?_) (fun c13 => ?_)
      · rw [if_pos (show (iand (ishr y1 y2) 1) ≠ 1 from c13)] at h
        refine go_iconst (pc' := 38) dX11_needs_37 rfl (r32_c rfl) ?_
        cases h
        exact k4J
      · rw [if_neg (show ¬ ((iand (ishr y1 y2) 1) ≠ 1) from c13)] at h
        refine go_aload_n (pc' := 23) dX11_needs_22 rfl rfl (Nat.le_of_ble_eq_true rfl) ?_
        refine go_getR (k' := 12) (L0 := 4) (P' := 146) (pc' := 26) dX11_needs_23 rfl rf_11_60 rfl rfl (by omega) ?_
        refine go_iload (pc' := 28) dX11_needs_26 rfl rfl ?_
        obtain ⟨g5, h⟩ := gd h
        refine go_iald (pc' := 29) dX11_needs_28 rfl g5 ?_
        refine go_iconst (pc' := 30) dX11_needs_29 rfl (r32_c rfl) ?_
        refine go_icmp_ne (t := 37) (pc' := 33) dX11_needs_30 rfl rfl (fun c6 => ?_) (fun c6 => ?_)
        · rw [if_pos (show (σ 146 y2) ≠ 3 from c6)] at h
          refine go_iconst (pc' := 38) dX11_needs_37 rfl (r32_c rfl) ?_
          cases h
          exact k4J
        · rw [if_neg (show ¬ ((σ 146 y2) ≠ 3) from c6)] at h
          refine go_iconst (pc' := 34) dX11_needs_33 rfl (r32_c rfl) ?_
          refine go_goto (t := 38) dX11_needs_34 rfl ?_
          cases h
          exact k4J

set_option maxRecDepth 10000 in
theorem l_M_needs (d : Nat) (n e : Nat) (σ : Hp) (x1 : Int) (x2 : Int) (r : Int) (h : f_M_needs σ x1 x2 = some r) : Ev (d + 1) 201 [pvR 11 0 129, pvI x1, pvI x2] (true, n, e, σ) (0, some (pvI r), true, n, e, σ) := by
  unfold f_M_needs at h
  refine Ev.of mtE201 rfl rfl rfl rfl ?_
  show Go none (Ev (d + 0)) mt201 0 [some (pvR 11 0 129), some (pvI x1), some (pvI x2), none, none, none] [] (true, n, e, σ) (0, some (pvI r), true, n, e, σ)
  refine go_iconst (pc' := 1) dX11_needs_0 rfl (r32_c rfl) ?_
  refine go_iload_n (pc' := 2) dX11_needs_1 rfl rfl ?_
  refine go_ishl (pc' := 3) dX11_needs_2 rfl ?_
  refine go_istore_n (L' := [some (pvR 11 0 129), some (pvI x1), some (pvI x2), some (pvI (ishl 1 x1)), none, none]) (pc' := 4) dX11_needs_3 rfl (Nat.le_of_ble_eq_true rfl) rfl ?_
  refine go_iload_n (pc' := 5) dX11_needs_4 rfl rfl ?_
  refine go_istore (L' := [some (pvR 11 0 129), some (pvI x1), some (pvI x2), some (pvI (ishl 1 x1)), some (pvI x1), none]) (pc' := 7) dX11_needs_5 rfl (Nat.le_of_ble_eq_true rfl) rfl ?_
  obtain ⟨j16, k17, h⟩ := bd h
  refine l_M_needs_7 d n e σ x1 x2 zFuel (ishl 1 x1) x1 _ k17 ?_
  refine go_iload_n (pc' := 78) dX11_needs_77 rfl rfl ?_
  refine go_iload_n (pc' := 79) dX11_needs_78 rfl rfl ?_
  refine go_ishr (pc' := 80) dX11_needs_79 rfl ?_
  refine go_iconst (pc' := 81) dX11_needs_80 rfl (r32_c rfl) ?_
  refine go_iand (pc' := 82) dX11_needs_81 rfl ?_
  refine go_iconst (pc' := 83) dX11_needs_82 rfl (r32_c rfl) ?_
  obtain ⟨j18, k19, h⟩ := bd h
  have k19J : Go none (Ev (d + 0)) mt201 91 [some (pvR 11 0 129), some (pvI x1), some (pvI x2), some (pvI j16.1), some (pvI j16.2), none] [pvI j18] (true, n, e, σ) (0, some (pvI r), true, n, e, σ) := by
    obtain ⟨g20, h⟩ := gd h
    cases h
    exact go_zret dX11_needs_91 rfl g20 rfl
  clear h
  have h := k19
  refine go_icmp_ne (t := 90) (pc' := 86) dX11_needs_83 rfl rfl (fun c21 => ?_) (fun c21 => ?_)
  · rw [if_pos (show (iand (ishr j16.1 x2) 1) ≠ 1 from c21)] at h
    refine go_iconst (pc' := 91) dX11_needs_90 rfl (r32_c rfl) ?_
    cases h
    exact k19J
  · rw [if_neg (show ¬ ((iand (ishr j16.1 x2) 1) ≠ 1) from c21)] at h
    refine go_iconst (pc' := 87) dX11_needs_86 rfl (r32_c rfl) ?_
    refine go_goto (t := 91) dX11_needs_87 rfl ?_
    cases h
    exact k19J

set_option maxRecDepth 10000 in
theorem l_M_weightTo_6 (d : Nat) (n : Nat) (e : Nat) (σ : Hp) (x1 : Int) (x2 : Int) (x3 : Int) (x4 : Int) {out : Out} : ∀ (F : Nat) (y1 : Int) (y2 : Int) (j14 : Int × Int), f_M_weightTo_6 σ x1 x3 x4 F y1 y2 = some j14 → Go none (Ev (d + 1)) mt204 57 [some (pvR 11 0 129), some (pvI x1), some (pvI x2), some (pvI x3), some (pvI x4), some (pvI j14.1), some (pvI j14.2)] [] (true, n, e, σ) out → Go none (Ev (d + 1)) mt204 6 [some (pvR 11 0 129), some (pvI x1), some (pvI x2), some (pvI x3), some (pvI x4), some (pvI y1), some (pvI y2)] [] (true, n, e, σ) out := by
  intro F
  induction F with
  | zero =>
    intro _ _ _ h
    intro _
    rw [f_M_weightTo_6] at h
    cases h
  | succ F ih =>
    intro y1 y2 j14 h hx
    rw [f_M_weightTo_6] at h
    refine go_iload (pc' := 8) dX11_weightTo_6 rfl rfl ?_
    refine go_iload_n (pc' := 9) dX11_weightTo_8 rfl rfl ?_
    refine go_icmp_le (t := 57) (pc' := 12) dX11_weightTo_9 rfl rfl (fun c13 => ?_) (fun c13 => ?_)
    · rw [if_pos (show y2 ≤ x3 from c13)] at h
      cases h
      exact hx
    · rw [if_neg (show ¬ (y2 ≤ x3) from c13)] at h
      refine go_iload (pc' := 14) dX11_weightTo_12 rfl rfl ?_
      refine go_aload_n (pc' := 15) dX11_weightTo_14 rfl rfl (Nat.le_of_ble_eq_true rfl) ?_
      refine go_getR (k' := 12) (L0 := 36) (P' := 133) (pc' := 18) dX11_weightTo_15 rfl rf_11_21 rfl rfl (by omega) ?_
      refine go_bipush (pc' := 20) dX11_weightTo_18 rfl (r32_c rfl) (by decide) ?_
      refine go_iload_n (pc' := 21) dX11_weightTo_20 rfl rfl ?_
      obtain ⟨g3, h⟩ := gd h
      refine go_imul (pc' := 22) dX11_weightTo_21 rfl g3 ?_
      refine go_iload (pc' := 24) dX11_weightTo_22 rfl rfl ?_
      obtain ⟨g4, h⟩ := gd h
      refine go_iadd (pc' := 25) dX11_weightTo_24 rfl g4 ?_
      obtain ⟨g5, h⟩ := gd h
      refine go_iald (pc' := 26) dX11_weightTo_25 rfl g5 ?_
      obtain ⟨g6, h⟩ := gd h
      refine go_imul (pc' := 27) dX11_weightTo_26 rfl g6 ?_
      refine go_istore (L' := [some (pvR 11 0 129), some (pvI x1), some (pvI x2), some (pvI x3), some (pvI x4), some (pvI (y1 * (σ 133 ((12 * x1) + y2)))), some (pvI y2)]) (pc' := 29) dX11_weightTo_27 rfl (Nat.le_of_ble_eq_true rfl) rfl ?_
      refine go_iload_n (pc' := 30) dX11_weightTo_29 rfl rfl ?_
      obtain ⟨j7, k8, h⟩ := bd h
      have k8J : Go none (Ev (d + 1)) mt204 52 [some (pvR 11 0 129), some (pvI x1), some (pvI x2), some (pvI x3), some (pvI x4), some (pvI (y1 * (σ 133 ((12 * x1) + y2)))), some (pvI y2)] [pvI j7] (true, n, e, σ) out := by
        refine go_istore (L' := [some (pvR 11 0 129), some (pvI x1), some (pvI x2), some (pvI x3), some (pvI x4), some (pvI (y1 * (σ 133 ((12 * x1) + y2)))), some (pvI j7)]) (pc' := 54) dX11_weightTo_52 rfl (Nat.le_of_ble_eq_true rfl) rfl ?_
        refine go_goto (t := 6) dX11_weightTo_54 rfl ?_
        exact ih (y1 * (σ 133 ((12 * x1) + y2))) j7 _ h hx
      clear h
      have h := k8
      refine go_if_ne (t := 43) (pc' := 33) dX11_weightTo_30 rfl rfl (fun c12 => ?_) (fun c12 => ?_)
      · rw [if_pos (show x1 ≠ 0 from c12)] at h
        refine go_aload_n (pc' := 44) dX11_weightTo_43 rfl rfl (Nat.le_of_ble_eq_true rfl) ?_
        refine go_iload_n (pc' := 45) dX11_weightTo_44 rfl rfl ?_
        refine go_iload (pc' := 47) dX11_weightTo_45 rfl rfl ?_
        refine go_iload (pc' := 49) dX11_weightTo_47 rfl rfl ?_
        obtain ⟨v9, k10, h⟩ := bd h
        have k10 := l_M_parent (d + 0) n e σ x1 y2 x4 _ k10
        refine go_call (kc := 182) (Mc := mt182) (v := some (pvI v9)) (w' := (true, n, e, σ)) (pc' := 52) (st' := [pvI v9]) [pvR 11 0 129, pvI x1, pvI y2, pvI x4] [] (Or.inl rfl) dX11_weightTo_49 rfl rm_11_169 mtE182 rfl rfl rfl (Nat.le_of_ble_eq_true rfl) (Or.inr ⟨_, _, 129, rfl, Or.inl rfl⟩) k10 rfl ?_
        cases h
        exact k8J
      · rw [if_neg (show ¬ (x1 ≠ 0) from c12)] at h
        refine go_aload_n (pc' := 34) dX11_weightTo_33 rfl rfl (Nat.le_of_ble_eq_true rfl) ?_
        refine go_getR (k' := 12) (L0 := 36) (P' := 132) (pc' := 37) dX11_weightTo_34 rfl rf_11_18 rfl rfl (by omega) ?_
        refine go_iload (pc' := 39) dX11_weightTo_37 rfl rfl ?_
        obtain ⟨g11, h⟩ := gd h
        refine go_iald (pc' := 40) dX11_weightTo_39 rfl g11 ?_
        refine go_goto (t := 52) dX11_weightTo_40 rfl ?_
        cases h
        exact k8J

set_option maxRecDepth 10000 in
theorem l_M_weightTo (d : Nat) (n e : Nat) (σ : Hp) (x1 : Int) (x2 : Int) (x3 : Int) (x4 : Int) (r : Int) (h : f_M_weightTo σ x1 x2 x3 x4 = some r) : Ev (d + 2) 204 [pvR 11 0 129, pvI x1, pvI x2, pvI x3, pvI x4] (true, n, e, σ) (0, some (pvI r), true, n, e, σ) := by
  unfold f_M_weightTo at h
  refine Ev.of mtE204 rfl rfl rfl rfl ?_
  show Go none (Ev (d + 1)) mt204 0 [some (pvR 11 0 129), some (pvI x1), some (pvI x2), some (pvI x3), some (pvI x4), none, none] [] (true, n, e, σ) (0, some (pvI r), true, n, e, σ)
  refine go_iconst (pc' := 1) dX11_weightTo_0 rfl (r32_c rfl) ?_
  refine go_istore (L' := [some (pvR 11 0 129), some (pvI x1), some (pvI x2), some (pvI x3), some (pvI x4), some (pvI 1), none]) (pc' := 3) dX11_weightTo_1 rfl (Nat.le_of_ble_eq_true rfl) rfl ?_
  refine go_iload_n (pc' := 4) dX11_weightTo_3 rfl rfl ?_
  refine go_istore (L' := [some (pvR 11 0 129), some (pvI x1), some (pvI x2), some (pvI x3), some (pvI x4), some (pvI 1), some (pvI x2)]) (pc' := 6) dX11_weightTo_4 rfl (Nat.le_of_ble_eq_true rfl) rfl ?_
  obtain ⟨j15, k16, h⟩ := bd h
  refine l_M_weightTo_6 d n e σ x1 x2 x3 x4 zFuel 1 x2 _ k16 ?_
  refine go_iload (pc' := 59) dX11_weightTo_57 rfl rfl ?_
  refine go_iload_n (pc' := 60) dX11_weightTo_59 rfl rfl ?_
  obtain ⟨j17, k18, h⟩ := bd h
  have k18J : Go none (Ev (d + 1)) mt204 69 [some (pvR 11 0 129), some (pvI x1), some (pvI x2), some (pvI x3), some (pvI x4), some (pvI j15.1), some (pvI j15.2)] [pvI j17] (true, n, e, σ) (0, some (pvI r), true, n, e, σ) := by
    cases h
    exact go_iret dX11_weightTo_69 rfl rfl
  clear h
  have h := k18
  refine go_icmp_ne (t := 68) (pc' := 63) dX11_weightTo_60 rfl rfl (fun c19 => ?_) (fun c19 => ?_)
  · rw [if_pos (show j15.2 ≠ x3 from c19)] at h
    refine go_iconst (pc' := 69) dX11_weightTo_68 rfl (r32_c rfl) ?_
    cases h
    exact k18J
  · rw [if_neg (show ¬ (j15.2 ≠ x3) from c19)] at h
    refine go_iload (pc' := 65) dX11_weightTo_63 rfl rfl ?_
    refine go_goto (t := 69) dX11_weightTo_65 rfl ?_
    cases h
    exact k18J

set_option maxRecDepth 10000 in
theorem l_M_weight_34 (d : Nat) (n : Nat) (e : Nat) (σ : Hp) (x1 : Int) (x2 : Int) (x3 : Int) (x4 : Int) {out : Out} : ∀ (F : Nat) (y4 : Int) (y5 : Int) (j17 : Int × Int), f_M_weight_34 σ x1 x2 x3 x4 F y4 y5 = some j17 → Go none (Ev (d + 2)) mt203 96 [some (pvR 11 0 129), some (pvI x1), some (pvI x2), some (pvI x3), some (pvI x4), some (pvI ((12 * x1) + x3)), some (pvI j17.1), some (pvI j17.2)] [] (true, n, e, σ) out → Go none (Ev (d + 2)) mt203 34 [some (pvR 11 0 129), some (pvI x1), some (pvI x2), some (pvI x3), some (pvI x4), some (pvI ((12 * x1) + x3)), some (pvI y4), some (pvI y5)] [] (true, n, e, σ) out := by
  intro F
  induction F with
  | zero =>
    intro _ _ _ h
    intro _
    rw [f_M_weight_34] at h
    cases h
  | succ F ih =>
    intro y4 y5 j17 h hx
    rw [f_M_weight_34] at h
    refine go_iload (pc' := 36) dX11_weight_34 rfl rfl ?_
    refine go_bipush (pc' := 38) dX11_weight_36 rfl (r32_c rfl) (by decide) ?_
    refine go_icmp_ge (t := 96) (pc' := 41) dX11_weight_38 rfl rfl (fun c16 => ?_) (fun c16 => ?_)
    · rw [if_pos (show 12 ≤ y5 from c16)] at h
      cases h
      exact hx
    · rw [if_neg (show ¬ (12 ≤ y5) from c16)] at h
      refine go_aload_n (pc' := 42) dX11_weight_41 rfl rfl (Nat.le_of_ble_eq_true rfl) ?_
      refine go_getR (k' := 12) (L0 := 36) (P' := 131) (pc' := 45) dX11_weight_42 rfl rf_11_15 rfl rfl (by omega) ?_
      refine go_iload (pc' := 47) dX11_weight_45 rfl rfl ?_
      obtain ⟨g6, h⟩ := gd h
      refine go_iald (pc' := 48) dX11_weight_47 rfl g6 ?_
      refine go_iconst (pc' := 49) dX11_weight_48 rfl (r32_c rfl) ?_
      refine go_icmp_ne (t := 96) (pc' := 52) dX11_weight_49 rfl rfl (fun c15 => ?_) (fun c15 => ?_)
      · rw [if_pos (show (σ 131 ((12 * x1) + x3)) ≠ 1 from c15)] at h
        cases h
        exact hx
      · rw [if_neg (show ¬ ((σ 131 ((12 * x1) + x3)) ≠ 1) from c15)] at h
        refine go_iload (pc' := 54) dX11_weight_52 rfl rfl ?_
        refine go_iconst (pc' := 55) dX11_weight_54 rfl (r32_c rfl) ?_
        refine go_icmp_ne (t := 96) (pc' := 58) dX11_weight_55 rfl rfl (fun c14 => ?_) (fun c14 => ?_)
        · rw [if_pos (show y4 ≠ 2 from c14)] at h
          cases h
          exact hx
        · rw [if_neg (show ¬ (y4 ≠ 2) from c14)] at h
          refine go_aload_n (pc' := 59) dX11_weight_58 rfl rfl (Nat.le_of_ble_eq_true rfl) ?_
          refine go_getR (k' := 12) (L0 := 36) (P' := 134) (pc' := 62) dX11_weight_59 rfl rf_11_24 rfl rfl (by omega) ?_
          refine go_iload (pc' := 64) dX11_weight_62 rfl rfl ?_
          obtain ⟨g7, h⟩ := gd h
          refine go_iald (pc' := 65) dX11_weight_64 rfl g7 ?_
          refine go_iload (pc' := 67) dX11_weight_65 rfl rfl ?_
          refine go_ishr (pc' := 68) dX11_weight_67 rfl ?_
          refine go_iconst (pc' := 69) dX11_weight_68 rfl (r32_c rfl) ?_
          refine go_iand (pc' := 70) dX11_weight_69 rfl ?_
          refine go_iconst (pc' := 71) dX11_weight_70 rfl (r32_c rfl) ?_
          obtain ⟨j8, k9, h⟩ := bd h
          have k9J : Go none (Ev (d + 2)) mt203 88 [some (pvR 11 0 129), some (pvI x1), some (pvI x2), some (pvI x3), some (pvI x4), some (pvI ((12 * x1) + x3)), some (pvI y4), some (pvI y5)] [pvI j8] (true, n, e, σ) out := by
            refine go_istore (L' := [some (pvR 11 0 129), some (pvI x1), some (pvI x2), some (pvI x3), some (pvI x4), some (pvI ((12 * x1) + x3)), some (pvI j8), some (pvI y5)]) (pc' := 90) dX11_weight_88 rfl (Nat.le_of_ble_eq_true rfl) rfl ?_
            obtain ⟨g12, h⟩ := gd h
            refine go_iinc (L' := [some (pvR 11 0 129), some (pvI x1), some (pvI x2), some (pvI x3), some (pvI x4), some (pvI ((12 * x1) + x3)), some (pvI j8), some (pvI (y5 + 1))]) (pc' := 93) dX11_weight_90 rfl rfl g12 rfl ?_
            refine go_goto (t := 34) dX11_weight_93 rfl ?_
            exact ih j8 (y5 + 1) _ h hx
          clear h
          have h := k9
          refine go_icmp_ne (t := 87) (pc' := 74) dX11_weight_71 rfl rfl (fun c13 => ?_) (fun c13 => ?_)
          · rw [if_pos (show (iand (ishr (σ 134 ((12 * x1) + x3)) y5) 1) ≠ 1 from c13)] at h
            refine go_iconst (pc' := 88) dX11_weight_87 rfl (r32_c rfl) ?_
            cases h
            exact k9J
          · rw [if_neg (show ¬ ((iand (ishr (σ 134 ((12 * x1) + x3)) y5) 1) ≠ 1) from c13)] at h
            refine go_aload_n (pc' := 75) dX11_weight_74 rfl rfl (Nat.le_of_ble_eq_true rfl) ?_
            refine go_iload_n (pc' := 76) dX11_weight_75 rfl rfl ?_
            refine go_iload_n (pc' := 77) dX11_weight_76 rfl rfl ?_
            refine go_iload (pc' := 79) dX11_weight_77 rfl rfl ?_
            refine go_iload (pc' := 81) dX11_weight_79 rfl rfl ?_
            obtain ⟨v10, k11, h⟩ := bd h
            have k11 := l_M_weightTo (d + 0) n e σ x1 x2 y5 x4 _ k11
            refine go_call (kc := 204) (Mc := mt204) (v := some (pvI v10)) (w' := (true, n, e, σ)) (pc' := 84) (st' := [pvI v10]) [pvR 11 0 129, pvI x1, pvI x2, pvI y5, pvI x4] [] (Or.inl rfl) dX11_weight_81 rfl rm_11_253 mtE204 rfl rfl rfl (Nat.le_of_ble_eq_true rfl) (Or.inr ⟨_, _, 129, rfl, Or.inl rfl⟩) k11 rfl ?_
            refine go_goto (t := 88) dX11_weight_84 rfl ?_
            cases h
            exact k9J

set_option maxRecDepth 10000 in
theorem l_M_weight (d : Nat) (n e : Nat) (σ : Hp) (x1 : Int) (x2 : Int) (x3 : Int) (x4 : Int) (r : Int) (h : f_M_weight σ x1 x2 x3 x4 = some r) : Ev (d + 3) 203 [pvR 11 0 129, pvI x1, pvI x2, pvI x3, pvI x4] (true, n, e, σ) (0, some (pvI r), true, n, e, σ) := by
  unfold f_M_weight at h
  refine Ev.of mtE203 rfl rfl rfl rfl ?_
  show Go none (Ev (d + 2)) mt203 0 [some (pvR 11 0 129), some (pvI x1), some (pvI x2), some (pvI x3), some (pvI x4), none, none, none] [] (true, n, e, σ) (0, some (pvI r), true, n, e, σ)
  refine go_bipush (pc' := 2) dX11_weight_0 rfl (r32_c rfl) (by decide) ?_
  refine go_iload_n (pc' := 3) dX11_weight_2 rfl rfl ?_
  obtain ⟨g1, h⟩ := gd h
  refine go_imul (pc' := 4) dX11_weight_3 rfl g1 ?_
  refine go_iload_n (pc' := 5) dX11_weight_4 rfl rfl ?_
  obtain ⟨g2, h⟩ := gd h
  refine go_iadd (pc' := 6) dX11_weight_5 rfl g2 ?_
  refine go_istore (L' := [some (pvR 11 0 129), some (pvI x1), some (pvI x2), some (pvI x3), some (pvI x4), some (pvI ((12 * x1) + x3)), none, none]) (pc' := 8) dX11_weight_6 rfl (Nat.le_of_ble_eq_true rfl) rfl ?_
  refine go_aload_n (pc' := 9) dX11_weight_8 rfl rfl (Nat.le_of_ble_eq_true rfl) ?_
  refine go_getR (k' := 12) (L0 := 36) (P' := 131) (pc' := 12) dX11_weight_9 rfl rf_11_15 rfl rfl (by omega) ?_
  refine go_iload (pc' := 14) dX11_weight_12 rfl rfl ?_
  obtain ⟨g3, h⟩ := gd h
  refine go_iald (pc' := 15) dX11_weight_14 rfl g3 ?_
  refine go_if_ne (t := 28) (pc' := 18) dX11_weight_15 rfl rfl (fun c22 => ?_) (fun c22 => ?_)
  · rw [if_pos (show (σ 131 ((12 * x1) + x3)) ≠ 0 from c22)] at h
    refine go_iconst (pc' := 29) dX11_weight_28 rfl (r32_c rfl) ?_
    refine go_istore (L' := [some (pvR 11 0 129), some (pvI x1), some (pvI x2), some (pvI x3), some (pvI x4), some (pvI ((12 * x1) + x3)), some (pvI 2), none]) (pc' := 31) dX11_weight_29 rfl (Nat.le_of_ble_eq_true rfl) rfl ?_
    refine go_iconst (pc' := 32) dX11_weight_31 rfl (r32_c rfl) ?_
    refine go_istore (L' := [some (pvR 11 0 129), some (pvI x1), some (pvI x2), some (pvI x3), some (pvI x4), some (pvI ((12 * x1) + x3)), some (pvI 2), some (pvI 0)]) (pc' := 34) dX11_weight_32 rfl (Nat.le_of_ble_eq_true rfl) rfl ?_
    obtain ⟨j18, k19, h⟩ := bd h
    refine l_M_weight_34 d n e σ x1 x2 x3 x4 zFuel 2 0 _ k19 ?_
    refine go_iload (pc' := 98) dX11_weight_96 rfl rfl ?_
    cases h
    exact go_iret dX11_weight_98 rfl rfl
  · rw [if_neg (show ¬ ((σ 131 ((12 * x1) + x3)) ≠ 0) from c22)] at h
    refine go_aload_n (pc' := 19) dX11_weight_18 rfl rfl (Nat.le_of_ble_eq_true rfl) ?_
    refine go_iload_n (pc' := 20) dX11_weight_19 rfl rfl ?_
    refine go_iload_n (pc' := 21) dX11_weight_20 rfl rfl ?_
    refine go_iload_n (pc' := 22) dX11_weight_21 rfl rfl ?_
    refine go_iload (pc' := 24) dX11_weight_22 rfl rfl ?_
    obtain ⟨v20, k21, h⟩ := bd h
    have k21 := l_M_weightTo (d + 0) n e σ x1 x2 x3 x4 _ k21
    refine go_call (kc := 204) (Mc := mt204) (v := some (pvI v20)) (w' := (true, n, e, σ)) (pc' := 27) (st' := [pvI v20]) [pvR 11 0 129, pvI x1, pvI x2, pvI x3, pvI x4] [] (Or.inl rfl) dX11_weight_24 rfl rm_11_253 mtE204 rfl rfl rfl (Nat.le_of_ble_eq_true rfl) (Or.inr ⟨_, _, 129, rfl, Or.inl rfl⟩) k21 rfl ?_
    cases h
    exact go_iret dX11_weight_27 rfl rfl

set_option maxRecDepth 10000 in
theorem l_M_counts (d : Nat) (n e : Nat) (σ : Hp) (x1 : Int) (x2 : Int) (x3 : Int) (x4 : Int) (r : Int) (h : f_M_counts σ x1 x2 x3 x4 = some r) : Ev (d + 4) 202 [pvR 11 0 129, pvI x1, pvI x2, pvI x3, pvI x4] (true, n, e, σ) (0, some (pvI r), true, n, e, σ) := by
  unfold f_M_counts at h
  refine Ev.of mtE202 rfl rfl rfl rfl ?_
  show Go none (Ev (d + 3)) mt202 0 [some (pvR 11 0 129), some (pvI x1), some (pvI x2), some (pvI x3), some (pvI x4), none, none, none, none, none] [] (true, n, e, σ) (0, some (pvI r), true, n, e, σ)
  refine go_aload_n (pc' := 1) dX11_counts_0 rfl rfl (Nat.le_of_ble_eq_true rfl) ?_
  refine go_getZ (pc' := 4) dX11_counts_1 rfl rf_11_199 rfl ?_
  obtain ⟨j1, k2, h⟩ := bd h
  have k2J : Go none (Ev (d + 3)) mt202 23 [some (pvR 11 0 129), some (pvI x1), some (pvI x2), some (pvI x3), some (pvI x4), none, none, none, none, none] [pvI j1] (true, n, e, σ) (0, some (pvI r), true, n, e, σ) := by
    refine go_istore (L' := [some (pvR 11 0 129), some (pvI x1), some (pvI x2), some (pvI x3), some (pvI x4), some (pvI j1), none, none, none, none]) (pc' := 25) dX11_counts_23 rfl (Nat.le_of_ble_eq_true rfl) rfl ?_
    refine go_aload_n (pc' := 26) dX11_counts_25 rfl rfl (Nat.le_of_ble_eq_true rfl) ?_
    refine go_iconst (pc' := 27) dX11_counts_26 rfl (r32_c rfl) ?_
    refine go_aload_n (pc' := 28) dX11_counts_27 rfl rfl (Nat.le_of_ble_eq_true rfl) ?_
    refine go_getR (k' := 12) (L0 := 51) (P' := 150) (pc' := 31) dX11_counts_28 rfl rf_11_72 rfl rfl (by omega) ?_
    refine go_iload_n (pc' := 32) dX11_counts_31 rfl rfl ?_
    obtain ⟨g5, h⟩ := gd h
    refine go_iald (pc' := 33) dX11_counts_32 rfl g5 ?_
    refine go_iload_n (pc' := 34) dX11_counts_33 rfl rfl ?_
    refine go_iload (pc' := 36) dX11_counts_34 rfl rfl ?_
    obtain ⟨v6, k7, h⟩ := bd h
    have k7 := l_M_weight (d + 0) n e σ 0 (σ 150 x1) x2 j1 _ k7
    refine go_call (kc := 203) (Mc := mt203) (v := some (pvI v6)) (w' := (true, n, e, σ)) (pc' := 39) (st' := [pvI v6]) [pvR 11 0 129, pvI 0, pvI (σ 150 x1), pvI x2, pvI j1] [] (Or.inl rfl) dX11_counts_36 rfl rm_11_256 mtE203 rfl rfl rfl (Nat.le_of_ble_eq_true rfl) (Or.inr ⟨_, _, 129, rfl, Or.inl rfl⟩) k7 rfl ?_
    refine go_istore (L' := [some (pvR 11 0 129), some (pvI x1), some (pvI x2), some (pvI x3), some (pvI x4), some (pvI j1), some (pvI v6), none, none, none]) (pc' := 41) dX11_counts_39 rfl (Nat.le_of_ble_eq_true rfl) rfl ?_
    refine go_aload_n (pc' := 42) dX11_counts_41 rfl rfl (Nat.le_of_ble_eq_true rfl) ?_
    refine go_iconst (pc' := 43) dX11_counts_42 rfl (r32_c rfl) ?_
    refine go_aload_n (pc' := 44) dX11_counts_43 rfl rfl (Nat.le_of_ble_eq_true rfl) ?_
    refine go_getR (k' := 12) (L0 := 51) (P' := 151) (pc' := 47) dX11_counts_44 rfl rf_11_75 rfl rfl (by omega) ?_
    refine go_iload_n (pc' := 48) dX11_counts_47 rfl rfl ?_
    obtain ⟨g8, h⟩ := gd h
    refine go_iald (pc' := 49) dX11_counts_48 rfl g8 ?_
    refine go_iload_n (pc' := 50) dX11_counts_49 rfl rfl ?_
    refine go_iload (pc' := 52) dX11_counts_50 rfl rfl ?_
    obtain ⟨v9, k10, h⟩ := bd h
    have k10 := l_M_weight (d + 0) n e σ 1 (σ 151 x1) x3 j1 _ k10
    refine go_call (kc := 203) (Mc := mt203) (v := some (pvI v9)) (w' := (true, n, e, σ)) (pc' := 55) (st' := [pvI v9]) [pvR 11 0 129, pvI 1, pvI (σ 151 x1), pvI x3, pvI j1] [] (Or.inl rfl) dX11_counts_52 rfl rm_11_256 mtE203 rfl rfl rfl (Nat.le_of_ble_eq_true rfl) (Or.inr ⟨_, _, 129, rfl, Or.inl rfl⟩) k10 rfl ?_
    refine go_istore (L' := [some (pvR 11 0 129), some (pvI x1), some (pvI x2), some (pvI x3), some (pvI x4), some (pvI j1), some (pvI v6), some (pvI v9), none, none]) (pc' := 57) dX11_counts_55 rfl (Nat.le_of_ble_eq_true rfl) rfl ?_
    refine go_aload_n (pc' := 58) dX11_counts_57 rfl rfl (Nat.le_of_ble_eq_true rfl) ?_
    refine go_iconst (pc' := 59) dX11_counts_58 rfl (r32_c rfl) ?_
    refine go_aload_n (pc' := 60) dX11_counts_59 rfl rfl (Nat.le_of_ble_eq_true rfl) ?_
    refine go_getR (k' := 12) (L0 := 51) (P' := 152) (pc' := 63) dX11_counts_60 rfl rf_11_78 rfl rfl (by omega) ?_
    refine go_iload_n (pc' := 64) dX11_counts_63 rfl rfl ?_
    obtain ⟨g11, h⟩ := gd h
    refine go_iald (pc' := 65) dX11_counts_64 rfl g11 ?_
    refine go_iload (pc' := 67) dX11_counts_65 rfl rfl ?_
    refine go_iload (pc' := 69) dX11_counts_67 rfl rfl ?_
    obtain ⟨v12, k13, h⟩ := bd h
    have k13 := l_M_weight (d + 0) n e σ 2 (σ 152 x1) x4 j1 _ k13
    refine go_call (kc := 203) (Mc := mt203) (v := some (pvI v12)) (w' := (true, n, e, σ)) (pc' := 72) (st' := [pvI v12]) [pvR 11 0 129, pvI 2, pvI (σ 152 x1), pvI x4, pvI j1] [] (Or.inl rfl) dX11_counts_69 rfl rm_11_256 mtE203 rfl rfl rfl (Nat.le_of_ble_eq_true rfl) (Or.inr ⟨_, _, 129, rfl, Or.inl rfl⟩) k13 rfl ?_
    refine go_istore (L' := [some (pvR 11 0 129), some (pvI x1), some (pvI x2), some (pvI x3), some (pvI x4), some (pvI j1), some (pvI v6), some (pvI v9), some (pvI v12), none]) (pc' := 74) dX11_counts_72 rfl (Nat.le_of_ble_eq_true rfl) rfl ?_
    refine go_aload_n (pc' := 75) dX11_counts_74 rfl rfl (Nat.le_of_ble_eq_true rfl) ?_
    refine go_getZ (pc' := 78) dX11_counts_75 rfl rf_11_225 rfl ?_
    obtain ⟨j14, k15, h⟩ := bd h
    have k15J : Go none (Ev (d + 3)) mt202 128 [some (pvR 11 0 129), some (pvI x1), some (pvI x2), some (pvI x3), some (pvI x4), some (pvI j1), some (pvI v6), some (pvI v9), some (pvI v12), none] [pvI j14] (true, n, e, σ) (0, some (pvI r), true, n, e, σ) := by
      refine go_istore (L' := [some (pvR 11 0 129), some (pvI x1), some (pvI x2), some (pvI x3), some (pvI x4), some (pvI j1), some (pvI v6), some (pvI v9), some (pvI v12), some (pvI j14)]) (pc' := 130) dX11_counts_128 rfl (Nat.le_of_ble_eq_true rfl) rfl ?_
      refine go_iload (pc' := 132) dX11_counts_130 rfl rfl ?_
      refine go_iconst (pc' := 133) dX11_counts_132 rfl (r32_c rfl) ?_
      obtain ⟨j28, k29, h⟩ := bd h
      have k29J : Go none (Ev (d + 3)) mt202 165 [some (pvR 11 0 129), some (pvI x1), some (pvI x2), some (pvI x3), some (pvI x4), some (pvI j1), some (pvI v6), some (pvI v9), some (pvI v12), some (pvI j14)] [pvI j28] (true, n, e, σ) (0, some (pvI r), true, n, e, σ) := by
        cases h
        exact go_iret dX11_counts_165 rfl rfl
      clear h
      have h := k29
      refine go_icmp_eq (t := 153) (pc' := 136) dX11_counts_133 rfl rfl (fun c35 => ?_) (fun c35 => ?_)
      · rw [if_pos (show v6 = 2 from c35)] at h
        refine go_iconst (pc' := 154) dX11_counts_153 rfl (r32_c rfl) ?_
        refine go_goto (t := 165) dX11_counts_154 rfl ?_
        cases h
        exact k29J
      · rw [if_neg (show ¬ (v6 = 2) from c35)] at h
        refine go_iload (pc' := 138) dX11_counts_136 rfl rfl ?_
        refine go_iconst (pc' := 139) dX11_counts_138 rfl (r32_c rfl) ?_
        refine go_icmp_eq (t := 153) (pc' := 142) dX11_counts_139 rfl rfl (fun c34 => ?_) (fun c34 => ?_)
        · rw [if_pos (show v9 = 2 from c34)] at h
          refine go_iconst (pc' := 154) dX11_counts_153 rfl (r32_c rfl) ?_
          refine go_goto (t := 165) dX11_counts_154 rfl ?_
          cases h
          exact k29J
        · rw [if_neg (show ¬ (v9 = 2) from c34)] at h
          refine go_iload (pc' := 144) dX11_counts_142 rfl rfl ?_
          refine go_iconst (pc' := 145) dX11_counts_144 rfl (r32_c rfl) ?_
          refine go_icmp_eq (t := 153) (pc' := 148) dX11_counts_145 rfl rfl (fun c33 => ?_) (fun c33 => ?_)
          · rw [if_pos (show v12 = 2 from c33)] at h
            refine go_iconst (pc' := 154) dX11_counts_153 rfl (r32_c rfl) ?_
            refine go_goto (t := 165) dX11_counts_154 rfl ?_
            cases h
            exact k29J
          · rw [if_neg (show ¬ (v12 = 2) from c33)] at h
            refine go_iload (pc' := 150) dX11_counts_148 rfl rfl ?_
            refine go_if_eq (t := 157) (pc' := 153) dX11_counts_150 rfl rfl (fun c32 => ?_) (fun c32 => ?_)
            · rw [if_pos (show j14 = 0 from c32)] at h
              refine go_iload (pc' := 159) dX11_counts_157 rfl rfl ?_
              refine go_iload (pc' := 161) dX11_counts_159 rfl rfl ?_
              obtain ⟨g30, h⟩ := gd h
              refine go_imul (pc' := 162) dX11_counts_161 rfl g30 ?_
              refine go_iload (pc' := 164) dX11_counts_162 rfl rfl ?_
              obtain ⟨g31, h⟩ := gd h
              refine go_imul (pc' := 165) dX11_counts_164 rfl g31 ?_
              cases h
              exact k29J
            · rw [if_neg (show ¬ (j14 = 0) from c32)] at h
              refine go_iconst (pc' := 154) dX11_counts_153 rfl (r32_c rfl) ?_
              refine go_goto (t := 165) dX11_counts_154 rfl ?_
              cases h
              exact k29J
    clear h
    have h := k15
    refine go_if_eq (t := 127) (pc' := 81) dX11_counts_78 rfl rfl (fun c36 => ?_) (fun c36 => ?_)
    · rw [if_pos (show (σ 129 17) = 0 from c36)] at h
      refine go_iconst (pc' := 128) dX11_counts_127 rfl (r32_c rfl) ?_
      cases h
      exact k15J
    · rw [if_neg (show ¬ ((σ 129 17) = 0) from c36)] at h
      refine go_aload_n (pc' := 82) dX11_counts_81 rfl rfl (Nat.le_of_ble_eq_true rfl) ?_
      refine go_iconst (pc' := 83) dX11_counts_82 rfl (r32_c rfl) ?_
      refine go_aload_n (pc' := 84) dX11_counts_83 rfl rfl (Nat.le_of_ble_eq_true rfl) ?_
      refine go_getR (k' := 12) (L0 := 51) (P' := 150) (pc' := 87) dX11_counts_84 rfl rf_11_72 rfl rfl (by omega) ?_
      refine go_iload_n (pc' := 88) dX11_counts_87 rfl rfl ?_
      obtain ⟨g16, h⟩ := gd h
      refine go_iald (pc' := 89) dX11_counts_88 rfl g16 ?_
      obtain ⟨v17, k18, h⟩ := bd h
      have k18 := l_M_seen (d + 0) n e σ 0 (σ 150 x1) _ k18
      refine go_call (kc := 186) (Mc := mt186) (v := some (pvI v17)) (w' := (true, n, e, σ)) (pc' := 92) (st' := [pvI v17]) [pvR 11 0 129, pvI 0, pvI (σ 150 x1)] [] (Or.inl rfl) dX11_counts_89 rfl rm_11_208 mtE186 rfl rfl rfl (Nat.le_of_ble_eq_true rfl) (Or.inr ⟨_, _, 129, rfl, Or.inl rfl⟩) k18 rfl ?_
      refine go_if_eq (t := 123) (pc' := 95) dX11_counts_92 rfl rfl (fun c27 => ?_) (fun c27 => ?_)
      · rw [if_pos (show v17 = 0 from c27)] at h
        refine go_iconst (pc' := 124) dX11_counts_123 rfl (r32_c rfl) ?_
        refine go_goto (t := 128) dX11_counts_124 rfl ?_
        cases h
        exact k15J
      · rw [if_neg (show ¬ (v17 = 0) from c27)] at h
        refine go_aload_n (pc' := 96) dX11_counts_95 rfl rfl (Nat.le_of_ble_eq_true rfl) ?_
        refine go_iconst (pc' := 97) dX11_counts_96 rfl (r32_c rfl) ?_
        refine go_aload_n (pc' := 98) dX11_counts_97 rfl rfl (Nat.le_of_ble_eq_true rfl) ?_
        refine go_getR (k' := 12) (L0 := 51) (P' := 151) (pc' := 101) dX11_counts_98 rfl rf_11_75 rfl rfl (by omega) ?_
        refine go_iload_n (pc' := 102) dX11_counts_101 rfl rfl ?_
        obtain ⟨g19, h⟩ := gd h
        refine go_iald (pc' := 103) dX11_counts_102 rfl g19 ?_
        obtain ⟨v20, k21, h⟩ := bd h
        have k21 := l_M_seen (d + 0) n e σ 1 (σ 151 x1) _ k21
        refine go_call (kc := 186) (Mc := mt186) (v := some (pvI v20)) (w' := (true, n, e, σ)) (pc' := 106) (st' := [pvI v20]) [pvR 11 0 129, pvI 1, pvI (σ 151 x1)] [] (Or.inl rfl) dX11_counts_103 rfl rm_11_208 mtE186 rfl rfl rfl (Nat.le_of_ble_eq_true rfl) (Or.inr ⟨_, _, 129, rfl, Or.inl rfl⟩) k21 rfl ?_
        refine go_if_eq (t := 123) (pc' := 109) dX11_counts_106 rfl rfl (fun c26 => ?_) (fun c26 => ?_)
        · rw [if_pos (show v20 = 0 from c26)] at h
          refine go_iconst (pc' := 124) dX11_counts_123 rfl (r32_c rfl) ?_
          refine go_goto (t := 128) dX11_counts_124 rfl ?_
          cases h
          exact k15J
        · rw [if_neg (show ¬ (v20 = 0) from c26)] at h
          refine go_aload_n (pc' := 110) dX11_counts_109 rfl rfl (Nat.le_of_ble_eq_true rfl) ?_
          refine go_iconst (pc' := 111) dX11_counts_110 rfl (r32_c rfl) ?_
          refine go_aload_n (pc' := 112) dX11_counts_111 rfl rfl (Nat.le_of_ble_eq_true rfl) ?_
          refine go_getR (k' := 12) (L0 := 51) (P' := 152) (pc' := 115) dX11_counts_112 rfl rf_11_78 rfl rfl (by omega) ?_
          refine go_iload_n (pc' := 116) dX11_counts_115 rfl rfl ?_
          obtain ⟨g22, h⟩ := gd h
          refine go_iald (pc' := 117) dX11_counts_116 rfl g22 ?_
          obtain ⟨v23, k24, h⟩ := bd h
          have k24 := l_M_seen (d + 0) n e σ 2 (σ 152 x1) _ k24
          refine go_call (kc := 186) (Mc := mt186) (v := some (pvI v23)) (w' := (true, n, e, σ)) (pc' := 120) (st' := [pvI v23]) [pvR 11 0 129, pvI 2, pvI (σ 152 x1)] [] (Or.inl rfl) dX11_counts_117 rfl rm_11_208 mtE186 rfl rfl rfl (Nat.le_of_ble_eq_true rfl) (Or.inr ⟨_, _, 129, rfl, Or.inl rfl⟩) k24 rfl ?_
          refine go_if_ne (t := 127) (pc' := 123) dX11_counts_120 rfl rfl (fun c25 => ?_) (fun c25 => ?_)
          · rw [if_pos (show v23 ≠ 0 from c25)] at h
            refine go_iconst (pc' := 128) dX11_counts_127 rfl (r32_c rfl) ?_
            cases h
            exact k15J
          · rw [if_neg (show ¬ (v23 ≠ 0) from c25)] at h
            refine go_iconst (pc' := 124) dX11_counts_123 rfl (r32_c rfl) ?_
            refine go_goto (t := 128) dX11_counts_124 rfl ?_
            cases h
            exact k15J
  clear h
  have h := k2
  refine go_if_eq (t := 12) (pc' := 7) dX11_counts_4 rfl rfl (fun c37 => ?_) (fun c37 => ?_)
  · rw [if_pos (show (σ 129 16) = 0 from c37)] at h
    refine go_aload_n (pc' := 13) dX11_counts_12 rfl rfl (Nat.le_of_ble_eq_true rfl) ?_
    refine go_getR (k' := 12) (L0 := 12) (P' := 145) (pc' := 16) dX11_counts_13 rfl rf_11_57 rfl rfl (by omega) ?_
    refine go_aload_n (pc' := 17) dX11_counts_16 rfl rfl (Nat.le_of_ble_eq_true rfl) ?_
    refine go_getR (k' := 12) (L0 := 51) (P' := 150) (pc' := 20) dX11_counts_17 rfl rf_11_72 rfl rfl (by omega) ?_
    refine go_iload_n (pc' := 21) dX11_counts_20 rfl rfl ?_
    obtain ⟨g3, h⟩ := gd h
    refine go_iald (pc' := 22) dX11_counts_21 rfl g3 ?_
    obtain ⟨g4, h⟩ := gd h
    refine go_iald (pc' := 23) dX11_counts_22 rfl g4 ?_
    cases h
    exact k2J
  · rw [if_neg (show ¬ ((σ 129 16) = 0) from c37)] at h
    refine go_bipush (pc' := 9) dX11_counts_7 rfl (r32_c rfl) (by decide) ?_
    refine go_goto (t := 23) dX11_counts_9 rfl ?_
    cases h
    exact k2J

set_option maxRecDepth 10000 in
theorem l_M_remove_12 (d : Nat) (n : Nat) (e : Nat) (x1 : Int) {out : Out} : ∀ (F : Nat) (y2 : Int) (σ3 : Hp) (j9 : Int × Hp), f_M_remove_12 F y2 σ3 = some j9 → Go none (Ev (d + 0)) mt205 40 [some (pvR 11 0 129), some (pvI x1), some (pvI j9.1)] [] (true, n, e, j9.2) out → Go none (Ev (d + 0)) mt205 12 [some (pvR 11 0 129), some (pvI x1), some (pvI y2)] [] (true, n, e, σ3) out := by
  intro F
  induction F with
  | zero =>
    intro _ _ _ h
    intro _
    rw [f_M_remove_12] at h
    cases h
  | succ F ih =>
    intro y2 σ3 j9 h hx
    rw [f_M_remove_12] at h
    refine go_iload_n (pc' := 13) dX11_remove_12 rfl rfl ?_
    refine go_aload_n (pc' := 14) dX11_remove_13 rfl rfl (Nat.le_of_ble_eq_true rfl) ?_
    refine go_getI (pc' := 17) dX11_remove_14 rfl rf_11_163 rfl ?_
    refine go_icmp_ge (t := 40) (pc' := 20) dX11_remove_17 rfl rfl (fun c8 => ?_) (fun c8 => ?_)
    · rw [if_pos (show (σ3 129 40) ≤ y2 from c8)] at h
      cases h
      exact hx
    · rw [if_neg (show ¬ ((σ3 129 40) ≤ y2) from c8)] at h
      refine go_aload_n (pc' := 21) dX11_remove_20 rfl rfl (Nat.le_of_ble_eq_true rfl) ?_
      refine go_getR (k' := 12) (L0 := 21) (P' := 162) (pc' := 24) dX11_remove_21 rfl rf_11_116 rfl rfl (by omega) ?_
      refine go_iload_n (pc' := 25) dX11_remove_24 rfl rfl ?_
      refine go_aload_n (pc' := 26) dX11_remove_25 rfl rfl (Nat.le_of_ble_eq_true rfl) ?_
      refine go_getR (k' := 12) (L0 := 21) (P' := 162) (pc' := 29) dX11_remove_26 rfl rf_11_116 rfl rfl (by omega) ?_
      refine go_iload_n (pc' := 30) dX11_remove_29 rfl rfl ?_
      refine go_iconst (pc' := 31) dX11_remove_30 rfl (r32_c rfl) ?_
      obtain ⟨g4, h⟩ := gd h
      refine go_iadd (pc' := 32) dX11_remove_31 rfl g4 ?_
      obtain ⟨g5, h⟩ := gd h
      refine go_iald (pc' := 33) dX11_remove_32 rfl g5 ?_
      obtain ⟨g6, h⟩ := gd h
      refine go_iast (pc' := 34) dX11_remove_33 rfl g6 ?_
      obtain ⟨g7, h⟩ := gd h
      refine go_iinc (L' := [some (pvR 11 0 129), some (pvI x1), some (pvI (y2 + 1))]) (pc' := 37) dX11_remove_34 rfl rfl g7 rfl ?_
      refine go_goto (t := 12) dX11_remove_37 rfl ?_
      exact ih (y2 + 1) (hset σ3 162 y2 (σ3 162 (y2 + 1))) _ h hx

set_option maxRecDepth 10000 in
theorem l_M_remove (d : Nat) (n e : Nat) (σ : Hp) (x1 : Int) (r : Hp) (h : f_M_remove σ x1 = some r) : Ev (d + 1) 205 [pvR 11 0 129, pvI x1] (true, n, e, σ) (0, none, true, n, e, r) := by
  unfold f_M_remove at h
  refine Ev.of mtE205 rfl rfl rfl rfl ?_
  show Go none (Ev (d + 0)) mt205 0 [some (pvR 11 0 129), some (pvI x1), none] [] (true, n, e, σ) (0, none, true, n, e, r)
  refine go_aload_n (pc' := 1) dX11_remove_0 rfl rfl (Nat.le_of_ble_eq_true rfl) ?_
  refine go_dup (pc' := 2) dX11_remove_1 rfl (Nat.ne_of_beq_eq_false rfl) ?_
  refine go_getI (pc' := 5) dX11_remove_2 rfl rf_11_163 rfl ?_
  refine go_iconst (pc' := 6) dX11_remove_5 rfl (r32_c rfl) ?_
  obtain ⟨g1, h⟩ := gd h
  refine go_isub (pc' := 7) dX11_remove_6 rfl g1 ?_
  refine go_putI (pc' := 10) dX11_remove_7 rfl rf_11_163 rfl ?_
  refine go_iload_n (pc' := 11) dX11_remove_10 rfl rfl ?_
  refine go_istore_n (L' := [some (pvR 11 0 129), some (pvI x1), some (pvI x1)]) (pc' := 12) dX11_remove_11 rfl (Nat.le_of_ble_eq_true rfl) rfl ?_
  obtain ⟨j10, k11, h⟩ := bd h
  refine l_M_remove_12 d n e x1 zFuel x1 (hset σ 129 40 ((σ 129 40) - 1)) _ k11 ?_
  cases h
  exact go_vret dX11_remove_40 rfl rfl

set_option maxRecDepth 10000 in
theorem l_M_drop_17 (d : Nat) (n : Nat) (e : Nat) (x1 : Int) {out : Out} : ∀ (F : Nat) (y3 : Int) (σ4 : Hp) (j41 : Int × Hp), f_M_drop_17 x1 F y3 σ4 = some j41 → Go none (Ev (d + 4)) mt200 154 [some (pvR 11 0 129), some (pvI x1), some (pvI j41.1), none, none, none, none] [] (true, n, e, j41.2) out → Go none (Ev (d + 4)) mt200 17 [some (pvR 11 0 129), some (pvI x1), some (pvI y3), none, none, none, none] [] (true, n, e, σ4) out := by
  intro F
  induction F with
  | zero =>
    intro _ _ _ h
    intro _
    rw [f_M_drop_17] at h
    cases h
  | succ F ih =>
    intro y3 σ4 j41 h hx
    rw [f_M_drop_17] at h
    refine go_iload_n (pc' := 18) dX11_drop_17 rfl rfl ?_
    refine go_if_lt (t := 154) (pc' := 21) dX11_drop_18 rfl rfl (fun c40 => ?_) (fun c40 => ?_)
    · rw [if_pos (show y3 < 0 from c40)] at h
      cases h
      exact hx
    · rw [if_neg (show ¬ (y3 < 0) from c40)] at h
      refine go_aload_n (pc' := 22) dX11_drop_21 rfl rfl (Nat.le_of_ble_eq_true rfl) ?_
      refine go_getR (k' := 12) (L0 := 21) (P' := 162) (pc' := 25) dX11_drop_22 rfl rf_11_116 rfl rfl (by omega) ?_
      refine go_iload_n (pc' := 26) dX11_drop_25 rfl rfl ?_
      obtain ⟨g5, h⟩ := gd h
      refine go_iald (pc' := 27) dX11_drop_26 rfl g5 ?_
      refine go_sipush (pc' := 30) dX11_drop_27 rfl (r32_c rfl) (by decide) ?_
      obtain ⟨g6, h⟩ := gd h
      refine go_idiv (pc' := 31) dX11_drop_30 rfl g6 ?_
      refine go_istore_n (L' := [some (pvR 11 0 129), some (pvI x1), some (pvI y3), some (pvI (Int.tdiv (σ4 162 y3) 576)), none, none, none]) (pc' := 32) dX11_drop_31 rfl (Nat.le_of_ble_eq_true rfl) rfl ?_
      refine go_aload_n (pc' := 33) dX11_drop_32 rfl rfl (Nat.le_of_ble_eq_true rfl) ?_
      refine go_getR (k' := 12) (L0 := 21) (P' := 162) (pc' := 36) dX11_drop_33 rfl rf_11_116 rfl rfl (by omega) ?_
      refine go_iload_n (pc' := 37) dX11_drop_36 rfl rfl ?_
      obtain ⟨g7, h⟩ := gd h
      refine go_iald (pc' := 38) dX11_drop_37 rfl g7 ?_
      refine go_bipush (pc' := 40) dX11_drop_38 rfl (r32_c rfl) (by decide) ?_
      obtain ⟨g8, h⟩ := gd h
      refine go_idiv (pc' := 41) dX11_drop_40 rfl g8 ?_
      refine go_bipush (pc' := 43) dX11_drop_41 rfl (r32_c rfl) (by decide) ?_
      obtain ⟨g9, h⟩ := gd h
      refine go_irem (pc' := 44) dX11_drop_43 rfl g9 ?_
      refine go_istore (L' := [some (pvR 11 0 129), some (pvI x1), some (pvI y3), some (pvI (Int.tdiv (σ4 162 y3) 576)), some (pvI (Int.tmod (Int.tdiv (σ4 162 y3) 48) 12)), none, none]) (pc' := 46) dX11_drop_44 rfl (Nat.le_of_ble_eq_true rfl) rfl ?_
      refine go_aload_n (pc' := 47) dX11_drop_46 rfl rfl (Nat.le_of_ble_eq_true rfl) ?_
      refine go_getR (k' := 12) (L0 := 21) (P' := 162) (pc' := 50) dX11_drop_47 rfl rf_11_116 rfl rfl (by omega) ?_
      refine go_iload_n (pc' := 51) dX11_drop_50 rfl rfl ?_
      obtain ⟨g10, h⟩ := gd h
      refine go_iald (pc' := 52) dX11_drop_51 rfl g10 ?_
      refine go_iconst (pc' := 53) dX11_drop_52 rfl (r32_c rfl) ?_
      obtain ⟨g11, h⟩ := gd h
      refine go_idiv (pc' := 54) dX11_drop_53 rfl g11 ?_
      refine go_bipush (pc' := 56) dX11_drop_54 rfl (r32_c rfl) (by decide) ?_
      obtain ⟨g12, h⟩ := gd h
      refine go_irem (pc' := 57) dX11_drop_56 rfl g12 ?_
      refine go_istore (L' := [some (pvR 11 0 129), some (pvI x1), some (pvI y3), some (pvI (Int.tdiv (σ4 162 y3) 576)), some (pvI (Int.tmod (Int.tdiv (σ4 162 y3) 48) 12)), some (pvI (Int.tmod (Int.tdiv (σ4 162 y3) 4) 12)), none]) (pc' := 59) dX11_drop_57 rfl (Nat.le_of_ble_eq_true rfl) rfl ?_
      refine go_aload_n (pc' := 60) dX11_drop_59 rfl rfl (Nat.le_of_ble_eq_true rfl) ?_
      refine go_getR (k' := 12) (L0 := 36) (P' := 131) (pc' := 63) dX11_drop_60 rfl rf_11_15 rfl rfl (by omega) ?_
      refine go_iload_n (pc' := 64) dX11_drop_63 rfl rfl ?_
      obtain ⟨g13, h⟩ := gd h
      refine go_iald (pc' := 65) dX11_drop_64 rfl g13 ?_
      refine go_iconst (pc' := 66) dX11_drop_65 rfl (r32_c rfl) ?_
      obtain ⟨j14, k15, h⟩ := bd h
      have k15J : Go none (Ev (d + 4)) mt200 102 [some (pvR 11 0 129), some (pvI x1), some (pvI y3), some (pvI (Int.tdiv (σ4 162 y3) 576)), some (pvI (Int.tmod (Int.tdiv (σ4 162 y3) 48) 12)), some (pvI (Int.tmod (Int.tdiv (σ4 162 y3) 4) 12)), none] [pvI j14] (true, n, e, σ4) out := by
        refine go_istore (L' := [some (pvR 11 0 129), some (pvI x1), some (pvI y3), some (pvI (Int.tdiv (σ4 162 y3) 576)), some (pvI (Int.tmod (Int.tdiv (σ4 162 y3) 48) 12)), some (pvI (Int.tmod (Int.tdiv (σ4 162 y3) 4) 12)), some (pvI j14)]) (pc' := 104) dX11_drop_102 rfl (Nat.le_of_ble_eq_true rfl) rfl ?_
        refine go_iload (pc' := 106) dX11_drop_104 rfl rfl ?_
        obtain ⟨j22, k23, h⟩ := bd h
        have k23J : Go none (Ev (d + 4)) mt200 148 [some (pvR 11 0 129), some (pvI x1), some (pvI y3), some (pvI (Int.tdiv (σ4 162 y3) 576)), some (pvI (Int.tmod (Int.tdiv (σ4 162 y3) 48) 12)), some (pvI (Int.tmod (Int.tdiv (σ4 162 y3) 4) 12)), some (pvI j14)] [] (true, n, e, j22) out := by
          obtain ⟨g37, h⟩ := gd h
          refine go_iinc (L' := [some (pvR 11 0 129), some (pvI x1), some (pvI (y3 + (-1))), some (pvI (Int.tdiv (σ4 162 y3) 576)), some (pvI (Int.tmod (Int.tdiv (σ4 162 y3) 48) 12)), some (pvI (Int.tmod (Int.tdiv (σ4 162 y3) 4) 12)), some (pvI j14)]) (pc' := 151) dX11_drop_148 rfl rfl g37 rfl ?_
          refine go_goto (t := 17) dX11_drop_151 rfl ?_
          exact go_sub (ih (y3 + (-1)) j22 _ h hx) ⟨Or.inr rfl, Or.inr rfl, Or.inr rfl, Or.inl rfl, Or.inl rfl, Or.inl rfl, Or.inl rfl, trivial⟩
        clear h
        have h := k23
        refine go_if_ne (t := 143) (pc' := 109) dX11_drop_106 rfl rfl (fun c38 => ?_) (fun c38 => ?_)
        · rw [if_pos (show j14 ≠ 0 from c38)] at h
          refine go_aload_n (pc' := 144) dX11_drop_143 rfl rfl (Nat.le_of_ble_eq_true rfl) ?_
          refine go_iload_n (pc' := 145) dX11_drop_144 rfl rfl ?_
          obtain ⟨v24, k25, h⟩ := bd h
          have k25 := l_M_remove (d + 3) n e σ4 y3 _ k25
          refine go_call (kc := 205) (Mc := mt205) (v := none) (w' := (true, n, e, v24)) (pc' := 148) (st' := []) [pvR 11 0 129, pvI y3] [] (Or.inl rfl) dX11_drop_145 rfl rm_11_318 mtE205 rfl rfl rfl (Nat.le_of_ble_eq_true rfl) (Or.inr ⟨_, _, 129, rfl, Or.inl rfl⟩) k25 rfl ?_
          cases h
          exact k23J
        · rw [if_neg (show ¬ (j14 ≠ 0) from c38)] at h
          refine go_aload_n (pc' := 110) dX11_drop_109 rfl rfl (Nat.le_of_ble_eq_true rfl) ?_
          refine go_aload_n (pc' := 111) dX11_drop_110 rfl rfl (Nat.le_of_ble_eq_true rfl) ?_
          refine go_getR (k' := 12) (L0 := 21) (P' := 162) (pc' := 114) dX11_drop_111 rfl rf_11_116 rfl rfl (by omega) ?_
          refine go_iload_n (pc' := 115) dX11_drop_114 rfl rfl ?_
          obtain ⟨g26, h⟩ := gd h
          refine go_iald (pc' := 116) dX11_drop_115 rfl g26 ?_
          refine go_iconst (pc' := 117) dX11_drop_116 rfl (r32_c rfl) ?_
          obtain ⟨g27, h⟩ := gd h
          refine go_irem (pc' := 118) dX11_drop_117 rfl g27 ?_
          refine go_aload_n (pc' := 119) dX11_drop_118 rfl rfl (Nat.le_of_ble_eq_true rfl) ?_
          refine go_getR (k' := 12) (L0 := 51) (P' := 153) (pc' := 122) dX11_drop_119 rfl rf_11_81 rfl rfl (by omega) ?_
          refine go_iload_n (pc' := 123) dX11_drop_122 rfl rfl ?_
          obtain ⟨g28, h⟩ := gd h
          refine go_iald (pc' := 124) dX11_drop_123 rfl g28 ?_
          obtain ⟨v29, k30, h⟩ := bd h
          have k30 := l_M_needs (d + 3) n e σ4 (Int.tmod (σ4 162 y3) 4) (σ4 153 x1) _ k30
          refine go_call (kc := 201) (Mc := mt201) (v := some (pvI v29)) (w' := (true, n, e, σ4)) (pc' := 127) (st' := [pvI v29]) [pvR 11 0 129, pvI (Int.tmod (σ4 162 y3) 4), pvI (σ4 153 x1)] [] (Or.inl rfl) dX11_drop_124 rfl rm_11_321 mtE201 rfl rfl rfl (Nat.le_of_ble_eq_true rfl) (Or.inr ⟨_, _, 129, rfl, Or.inl rfl⟩) k30 rfl ?_
          refine go_if_eq (t := 148) (pc' := 130) dX11_drop_127 rfl rfl (fun c36 => ?_) (fun c36 => ?_)
          · rw [if_pos (show v29 = 0 from c36)] at h
            cases h
            exact k23J
          · rw [if_neg (show ¬ (v29 = 0) from c36)] at h
            refine go_aload_n (pc' := 131) dX11_drop_130 rfl rfl (Nat.le_of_ble_eq_true rfl) ?_
            refine go_iload_n (pc' := 132) dX11_drop_131 rfl rfl ?_
            refine go_iload_n (pc' := 133) dX11_drop_132 rfl rfl ?_
            refine go_iload (pc' := 135) dX11_drop_133 rfl rfl ?_
            refine go_iload (pc' := 137) dX11_drop_135 rfl rfl ?_
            obtain ⟨v31, k32, h⟩ := bd h
            have k32 := l_M_counts (d + 0) n e σ4 x1 (Int.tdiv (σ4 162 y3) 576) (Int.tmod (Int.tdiv (σ4 162 y3) 48) 12) (Int.tmod (Int.tdiv (σ4 162 y3) 4) 12) _ k32
            refine go_call (kc := 202) (Mc := mt202) (v := some (pvI v31)) (w' := (true, n, e, σ4)) (pc' := 140) (st' := [pvI v31]) [pvR 11 0 129, pvI x1, pvI (Int.tdiv (σ4 162 y3) 576), pvI (Int.tmod (Int.tdiv (σ4 162 y3) 48) 12), pvI (Int.tmod (Int.tdiv (σ4 162 y3) 4) 12)] [] (Or.inl rfl) dX11_drop_137 rfl rm_11_259 mtE202 rfl rfl rfl (Nat.le_of_ble_eq_true rfl) (Or.inr ⟨_, _, 129, rfl, Or.inl rfl⟩) k32 rfl ?_
            refine go_if_eq (t := 148) (pc' := 143) dX11_drop_140 rfl rfl (fun c35 => ?_) (fun c35 => ?_)
            · rw [if_pos (show v31 = 0 from c35)] at h
              cases h
              exact k23J
            · rw [if_neg (show ¬ (v31 = 0) from c35)] at h
              refine go_aload_n (pc' := 144) dX11_drop_143 rfl rfl (Nat.le_of_ble_eq_true rfl) ?_
              refine go_iload_n (pc' := 145) dX11_drop_144 rfl rfl ?_
              obtain ⟨v33, k34, h⟩ := bd h
              have k34 := l_M_remove (d + 3) n e σ4 y3 _ k34
              refine go_call (kc := 205) (Mc := mt205) (v := none) (w' := (true, n, e, v33)) (pc' := 148) (st' := []) [pvR 11 0 129, pvI y3] [] (Or.inl rfl) dX11_drop_145 rfl rm_11_318 mtE205 rfl rfl rfl (Nat.le_of_ble_eq_true rfl) (Or.inr ⟨_, _, 129, rfl, Or.inl rfl⟩) k34 rfl ?_
              cases h
              exact k23J
      clear h
      have h := k15
      refine go_icmp_eq (t := 97) (pc' := 69) dX11_drop_66 rfl rfl (fun c39 => ?_) (fun c39 => ?_)
      · rw [if_pos (show (σ4 131 (Int.tdiv (σ4 162 y3) 576)) = 2 from c39)] at h
        refine go_iconst (pc' := 98) dX11_drop_97 rfl (r32_c rfl) ?_
        refine go_goto (t := 102) dX11_drop_98 rfl ?_
        cases h
        exact k15J
      · rw [if_neg (show ¬ ((σ4 131 (Int.tdiv (σ4 162 y3) 576)) = 2) from c39)] at h
        refine go_aload_n (pc' := 70) dX11_drop_69 rfl rfl (Nat.le_of_ble_eq_true rfl) ?_
        refine go_getR (k' := 12) (L0 := 36) (P' := 131) (pc' := 73) dX11_drop_70 rfl rf_11_15 rfl rfl (by omega) ?_
        refine go_bipush (pc' := 75) dX11_drop_73 rfl (r32_c rfl) (by decide) ?_
        refine go_iload (pc' := 77) dX11_drop_75 rfl rfl ?_
        obtain ⟨g16, h⟩ := gd h
        refine go_iadd (pc' := 78) dX11_drop_77 rfl g16 ?_
        obtain ⟨g17, h⟩ := gd h
        refine go_iald (pc' := 79) dX11_drop_78 rfl g17 ?_
        refine go_iconst (pc' := 80) dX11_drop_79 rfl (r32_c rfl) ?_
        refine go_icmp_eq (t := 97) (pc' := 83) dX11_drop_80 rfl rfl (fun c21 => ?_) (fun c21 => ?_)
        · rw [if_pos (show (σ4 131 (12 + (Int.tmod (Int.tdiv (σ4 162 y3) 48) 12))) = 2 from c21)] at h
          refine go_iconst (pc' := 98) dX11_drop_97 rfl (r32_c rfl) ?_
          refine go_goto (t := 102) dX11_drop_98 rfl ?_
          cases h
          exact k15J
        · rw [if_neg (show ¬ ((σ4 131 (12 + (Int.tmod (Int.tdiv (σ4 162 y3) 48) 12))) = 2) from c21)] at h
          refine go_aload_n (pc' := 84) dX11_drop_83 rfl rfl (Nat.le_of_ble_eq_true rfl) ?_
          refine go_getR (k' := 12) (L0 := 36) (P' := 131) (pc' := 87) dX11_drop_84 rfl rf_11_15 rfl rfl (by omega) ?_
          refine go_bipush (pc' := 89) dX11_drop_87 rfl (r32_c rfl) (by decide) ?_
          refine go_iload (pc' := 91) dX11_drop_89 rfl rfl ?_
          obtain ⟨g18, h⟩ := gd h
          refine go_iadd (pc' := 92) dX11_drop_91 rfl g18 ?_
          obtain ⟨g19, h⟩ := gd h
          refine go_iald (pc' := 93) dX11_drop_92 rfl g19 ?_
          refine go_iconst (pc' := 94) dX11_drop_93 rfl (r32_c rfl) ?_
          refine go_icmp_ne (t := 101) (pc' := 97) dX11_drop_94 rfl rfl (fun c20 => ?_) (fun c20 => ?_)
          · rw [if_pos (show (σ4 131 (24 + (Int.tmod (Int.tdiv (σ4 162 y3) 4) 12))) ≠ 2 from c20)] at h
            refine go_iconst (pc' := 102) dX11_drop_101 rfl (r32_c rfl) ?_
            cases h
            exact k15J
          · rw [if_neg (show ¬ ((σ4 131 (24 + (Int.tmod (Int.tdiv (σ4 162 y3) 4) 12))) ≠ 2) from c20)] at h
            refine go_iconst (pc' := 98) dX11_drop_97 rfl (r32_c rfl) ?_
            refine go_goto (t := 102) dX11_drop_98 rfl ?_
            cases h
            exact k15J

set_option maxRecDepth 10000 in
theorem l_M_drop (d : Nat) (n e : Nat) (σ : Hp) (x1 : Int) (r : Hp) (h : f_M_drop σ x1 = some r) : Ev (d + 5) 200 [pvR 11 0 129, pvI x1] (true, n, e, σ) (0, none, true, n, e, r) := by
  unfold f_M_drop at h
  refine Ev.of mtE200 rfl rfl rfl rfl ?_
  show Go none (Ev (d + 4)) mt200 0 [some (pvR 11 0 129), some (pvI x1), none, none, none, none, none] [] (true, n, e, σ) (0, none, true, n, e, r)
  refine go_aload_n (pc' := 1) dX11_drop_0 rfl rfl (Nat.le_of_ble_eq_true rfl) ?_
  refine go_dup (pc' := 2) dX11_drop_1 rfl (Nat.ne_of_beq_eq_false rfl) ?_
  refine go_getI (pc' := 5) dX11_drop_2 rfl rf_11_113 rfl ?_
  refine go_iconst (pc' := 6) dX11_drop_5 rfl (r32_c rfl) ?_
  obtain ⟨g1, h⟩ := gd h
  refine go_iadd (pc' := 7) dX11_drop_6 rfl g1 ?_
  refine go_putI (pc' := 10) dX11_drop_7 rfl rf_11_113 rfl ?_
  refine go_aload_n (pc' := 11) dX11_drop_10 rfl rfl (Nat.le_of_ble_eq_true rfl) ?_
  refine go_getI (pc' := 14) dX11_drop_11 rfl rf_11_163 rfl ?_
  refine go_iconst (pc' := 15) dX11_drop_14 rfl (r32_c rfl) ?_
  obtain ⟨g2, h⟩ := gd h
  refine go_isub (pc' := 16) dX11_drop_15 rfl g2 ?_
  refine go_istore_n (L' := [some (pvR 11 0 129), some (pvI x1), some (pvI (((hset σ 129 38 ((σ 129 38) + 1)) 129 40) - 1)), none, none, none, none]) (pc' := 17) dX11_drop_16 rfl (Nat.le_of_ble_eq_true rfl) rfl ?_
  obtain ⟨j42, k43, h⟩ := bd h
  refine l_M_drop_17 d n e x1 zFuel (((hset σ 129 38 ((σ 129 38) + 1)) 129 40) - 1) (hset σ 129 38 ((σ 129 38) + 1)) _ k43 ?_
  cases h
  exact go_vret dX11_drop_154 rfl rfl

set_option maxRecDepth 10000 in
theorem l_M_put (d : Nat) (n e : Nat) (σ : Hp) (x1 : Int) (x2 : Int) (x3 : Int) (x4 : Int) (x5 : Int) (x6 : Int) (r : Int × Hp) (h : f_M_put σ x1 x2 x3 x4 x5 x6 = some r) : Ev (d + 6) 198 [pvR 11 0 129, pvI x1, pvI x2, pvI x3, pvI x4, pvI x5, pvI x6] (true, n, e, σ) (0, some (pvI r.1), true, n, e, r.2) := by
  unfold f_M_put at h
  refine Ev.of mtE198 rfl rfl rfl rfl ?_
  show Go none (Ev (d + 5)) mt198 0 [some (pvR 11 0 129), some (pvI x1), some (pvI x2), some (pvI x3), some (pvI x4), some (pvI x5), some (pvI x6), none] [] (true, n, e, σ) (0, some (pvI r.1), true, n, e, r.2)
  refine go_iload_n (pc' := 1) dX11_put_0 rfl rfl ?_
  refine go_if_lt (t := 17) (pc' := 4) dX11_put_1 rfl rfl (fun c28 => ?_) (fun c28 => ?_)
  · rw [if_pos (show x1 < 0 from c28)] at h
    refine go_iload_n (pc' := 18) dX11_put_17 rfl rfl ?_
    obtain ⟨j1, k2, h⟩ := bd h
    have k2J : Go none (Ev (d + 5)) mt198 29 [some (pvR 11 0 129), some (pvI x1), some (pvI x2), some (pvI x3), some (pvI x4), some (pvI x5), some (pvI x6), none] [pvI j1] (true, n, e, σ) (0, some (pvI r.1), true, n, e, r.2) := by
      refine go_istore (L' := [some (pvR 11 0 129), some (pvI x1), some (pvI x2), some (pvI x3), some (pvI x4), some (pvI x5), some (pvI x6), some (pvI j1)]) (pc' := 31) dX11_put_29 rfl (Nat.le_of_ble_eq_true rfl) rfl ?_
      refine go_aload_n (pc' := 32) dX11_put_31 rfl rfl (Nat.le_of_ble_eq_true rfl) ?_
      refine go_iload (pc' := 34) dX11_put_32 rfl rfl ?_
      refine go_iload_n (pc' := 35) dX11_put_34 rfl rfl ?_
      refine go_iload_n (pc' := 36) dX11_put_35 rfl rfl ?_
      refine go_iload (pc' := 38) dX11_put_36 rfl rfl ?_
      refine go_iload (pc' := 40) dX11_put_38 rfl rfl ?_
      refine go_iload (pc' := 42) dX11_put_40 rfl rfl ?_
      obtain ⟨v3, k4, h⟩ := bd h
      have k4 := l_M_lay (d + 4) n e σ j1 x2 x3 x4 x5 x6 _ k4
      refine go_call (kc := 199) (Mc := mt199) (v := none) (w' := (true, n, e, v3)) (pc' := 45) (st' := []) [pvR 11 0 129, pvI j1, pvI x2, pvI x3, pvI x4, pvI x5, pvI x6] [] (Or.inl rfl) dX11_put_42 rfl rm_11_245 mtE199 rfl rfl rfl (Nat.le_of_ble_eq_true rfl) (Or.inr ⟨_, _, 129, rfl, Or.inl rfl⟩) k4 rfl ?_
      refine go_aload_n (pc' := 46) dX11_put_45 rfl rfl (Nat.le_of_ble_eq_true rfl) ?_
      refine go_dup (pc' := 47) dX11_put_46 rfl (Nat.ne_of_beq_eq_false rfl) ?_
      refine go_getI (pc' := 50) dX11_put_47 rfl rf_11_230 rfl ?_
      refine go_iload_n (pc' := 51) dX11_put_50 rfl rfl ?_
      obtain ⟨j5, k6, h⟩ := bd h
      have k6J : Go none (Ev (d + 5)) mt198 59 [some (pvR 11 0 129), some (pvI x1), some (pvI x2), some (pvI x3), some (pvI x4), some (pvI x5), some (pvI x6), some (pvI j1)] [pvI j5, pvI (v3 129 29), pvR 11 0 129] (true, n, e, v3) (0, some (pvI r.1), true, n, e, r.2) := by
        obtain ⟨g7, h⟩ := gd h
        refine go_iadd (pc' := 60) dX11_put_59 rfl g7 ?_
        refine go_putI (pc' := 63) dX11_put_60 rfl rf_11_230 rfl ?_
        refine go_aload_n (pc' := 64) dX11_put_63 rfl rfl (Nat.le_of_ble_eq_true rfl) ?_
        refine go_iload (pc' := 66) dX11_put_64 rfl rfl ?_
        obtain ⟨v8, k9, h⟩ := bd h
        have k9 := l_M_drop (d + 0) n e (hset v3 129 29 ((v3 129 29) + j5)) j1 _ k9
        refine go_call (kc := 200) (Mc := mt200) (v := none) (w' := (true, n, e, v8)) (pc' := 69) (st' := []) [pvR 11 0 129, pvI j1] [] (Or.inl rfl) dX11_put_66 rfl rm_11_249 mtE200 rfl rfl rfl (Nat.le_of_ble_eq_true rfl) (Or.inr ⟨_, _, 129, rfl, Or.inl rfl⟩) k9 rfl ?_
        refine go_iconst (pc' := 70) dX11_put_69 rfl (r32_c rfl) ?_
        obtain ⟨g10, h⟩ := gd h
        cases h
        exact go_zret dX11_put_70 rfl g10 rfl
      clear h
      have h := k6
      refine go_if_ge (t := 58) (pc' := 54) dX11_put_51 rfl rfl (fun c11 => ?_) (fun c11 => ?_)
      · rw [if_pos (show 0 ≤ x1 from c11)] at h
        refine go_iconst (pc' := 59) dX11_put_58 rfl (r32_c rfl) ?_
        cases h
        exact k6J
      · rw [if_neg (show ¬ (0 ≤ x1) from c11)] at h
        refine go_iconst (pc' := 55) dX11_put_54 rfl (r32_c rfl) ?_
        refine go_goto (t := 59) dX11_put_55 rfl ?_
        cases h
        exact k6J
    clear h
    have h := k2
    refine go_if_ge (t := 28) (pc' := 21) dX11_put_18 rfl rfl (fun c12 => ?_) (fun c12 => ?_)
    · rw [if_pos (show 0 ≤ x1 from c12)] at h
      refine go_iload_n (pc' := 29) dX11_put_28 rfl rfl ?_
      cases h
      exact k2J
    · rw [if_neg (show ¬ (0 ≤ x1) from c12)] at h
      refine go_aload_n (pc' := 22) dX11_put_21 rfl rfl (Nat.le_of_ble_eq_true rfl) ?_
      refine go_getI (pc' := 25) dX11_put_22 rfl rf_11_230 rfl ?_
      refine go_goto (t := 29) dX11_put_25 rfl ?_
      cases h
      exact k2J
  · rw [if_neg (show ¬ (x1 < 0) from c28)] at h
    refine go_aload_n (pc' := 5) dX11_put_4 rfl rfl (Nat.le_of_ble_eq_true rfl) ?_
    refine go_getR (k' := 12) (L0 := 51) (P' := 154) (pc' := 8) dX11_put_5 rfl rf_11_84 rfl rfl (by omega) ?_
    refine go_iload_n (pc' := 9) dX11_put_8 rfl rfl ?_
    obtain ⟨g13, h⟩ := gd h
    refine go_iald (pc' := 10) dX11_put_9 rfl g13 ?_
    refine go_iload (pc' := 12) dX11_put_10 rfl rfl ?_
    refine go_icmp_ne (t := 17) (pc' := 15) dX11_put_12 rfl rfl (fun c27 => ?_) (fun c27 => ?_)
    · rw [if_pos (show (σ 154 x1) ≠ x6 from c27)] at h
      refine go_iload_n (pc' := 18) dX11_put_17 rfl rfl ?_
      obtain ⟨j14, k15, h⟩ := bd h
      have k15J : Go none (Ev (d + 5)) mt198 29 [some (pvR 11 0 129), some (pvI x1), some (pvI x2), some (pvI x3), some (pvI x4), some (pvI x5), some (pvI x6), none] [pvI j14] (true, n, e, σ) (0, some (pvI r.1), true, n, e, r.2) := by
        refine go_istore (L' := [some (pvR 11 0 129), some (pvI x1), some (pvI x2), some (pvI x3), some (pvI x4), some (pvI x5), some (pvI x6), some (pvI j14)]) (pc' := 31) dX11_put_29 rfl (Nat.le_of_ble_eq_true rfl) rfl ?_
        refine go_aload_n (pc' := 32) dX11_put_31 rfl rfl (Nat.le_of_ble_eq_true rfl) ?_
        refine go_iload (pc' := 34) dX11_put_32 rfl rfl ?_
        refine go_iload_n (pc' := 35) dX11_put_34 rfl rfl ?_
        refine go_iload_n (pc' := 36) dX11_put_35 rfl rfl ?_
        refine go_iload (pc' := 38) dX11_put_36 rfl rfl ?_
        refine go_iload (pc' := 40) dX11_put_38 rfl rfl ?_
        refine go_iload (pc' := 42) dX11_put_40 rfl rfl ?_
        obtain ⟨v16, k17, h⟩ := bd h
        have k17 := l_M_lay (d + 4) n e σ j14 x2 x3 x4 x5 x6 _ k17
        refine go_call (kc := 199) (Mc := mt199) (v := none) (w' := (true, n, e, v16)) (pc' := 45) (st' := []) [pvR 11 0 129, pvI j14, pvI x2, pvI x3, pvI x4, pvI x5, pvI x6] [] (Or.inl rfl) dX11_put_42 rfl rm_11_245 mtE199 rfl rfl rfl (Nat.le_of_ble_eq_true rfl) (Or.inr ⟨_, _, 129, rfl, Or.inl rfl⟩) k17 rfl ?_
        refine go_aload_n (pc' := 46) dX11_put_45 rfl rfl (Nat.le_of_ble_eq_true rfl) ?_
        refine go_dup (pc' := 47) dX11_put_46 rfl (Nat.ne_of_beq_eq_false rfl) ?_
        refine go_getI (pc' := 50) dX11_put_47 rfl rf_11_230 rfl ?_
        refine go_iload_n (pc' := 51) dX11_put_50 rfl rfl ?_
        obtain ⟨j18, k19, h⟩ := bd h
        have k19J : Go none (Ev (d + 5)) mt198 59 [some (pvR 11 0 129), some (pvI x1), some (pvI x2), some (pvI x3), some (pvI x4), some (pvI x5), some (pvI x6), some (pvI j14)] [pvI j18, pvI (v16 129 29), pvR 11 0 129] (true, n, e, v16) (0, some (pvI r.1), true, n, e, r.2) := by
          obtain ⟨g20, h⟩ := gd h
          refine go_iadd (pc' := 60) dX11_put_59 rfl g20 ?_
          refine go_putI (pc' := 63) dX11_put_60 rfl rf_11_230 rfl ?_
          refine go_aload_n (pc' := 64) dX11_put_63 rfl rfl (Nat.le_of_ble_eq_true rfl) ?_
          refine go_iload (pc' := 66) dX11_put_64 rfl rfl ?_
          obtain ⟨v21, k22, h⟩ := bd h
          have k22 := l_M_drop (d + 0) n e (hset v16 129 29 ((v16 129 29) + j18)) j14 _ k22
          refine go_call (kc := 200) (Mc := mt200) (v := none) (w' := (true, n, e, v21)) (pc' := 69) (st' := []) [pvR 11 0 129, pvI j14] [] (Or.inl rfl) dX11_put_66 rfl rm_11_249 mtE200 rfl rfl rfl (Nat.le_of_ble_eq_true rfl) (Or.inr ⟨_, _, 129, rfl, Or.inl rfl⟩) k22 rfl ?_
          refine go_iconst (pc' := 70) dX11_put_69 rfl (r32_c rfl) ?_
          obtain ⟨g23, h⟩ := gd h
          cases h
          exact go_zret dX11_put_70 rfl g23 rfl
        clear h
        have h := k19
        refine go_if_ge (t := 58) (pc' := 54) dX11_put_51 rfl rfl (fun c24 => ?_) (fun c24 => ?_)
        · rw [if_pos (show 0 ≤ x1 from c24)] at h
          refine go_iconst (pc' := 59) dX11_put_58 rfl (r32_c rfl) ?_
          cases h
          exact k19J
        · rw [if_neg (show ¬ (0 ≤ x1) from c24)] at h
          refine go_iconst (pc' := 55) dX11_put_54 rfl (r32_c rfl) ?_
          refine go_goto (t := 59) dX11_put_55 rfl ?_
          cases h
          exact k19J
      clear h
      have h := k15
      refine go_if_ge (t := 28) (pc' := 21) dX11_put_18 rfl rfl (fun c25 => ?_) (fun c25 => ?_)
      · rw [if_pos (show 0 ≤ x1 from c25)] at h
        refine go_iload_n (pc' := 29) dX11_put_28 rfl rfl ?_
        cases h
        exact k15J
      · rw [if_neg (show ¬ (0 ≤ x1) from c25)] at h
        refine go_aload_n (pc' := 22) dX11_put_21 rfl rfl (Nat.le_of_ble_eq_true rfl) ?_
        refine go_getI (pc' := 25) dX11_put_22 rfl rf_11_230 rfl ?_
        refine go_goto (t := 29) dX11_put_25 rfl ?_
        cases h
        exact k15J
    · rw [if_neg (show ¬ ((σ 154 x1) ≠ x6) from c27)] at h
      refine go_iconst (pc' := 16) dX11_put_15 rfl (r32_c rfl) ?_
      obtain ⟨g26, h⟩ := gd h
      cases h
      exact go_zret dX11_put_16 rfl g26 rfl

set_option maxRecDepth 10000 in
theorem l_M_fact (d : Nat) (n e : Nat) (σ : Hp) (x1 : Int) (x2 : Int) (x3 : Int) (x4 : Int) (x5 : Int) (r : Int × Hp) (h : f_M_fact σ x1 x2 x3 x4 x5 = some r) : Ev (d + 7) 195 [pvR 11 0 129, pvI x1, pvI x2, pvI x3, pvI x4, pvI x5] (true, n, e, σ) (0, some (pvI r.1), true, n, e, r.2) := by
  unfold f_M_fact at h
  refine Ev.of mtE195 rfl rfl rfl rfl ?_
  show Go none (Ev (d + 6)) mt195 0 [some (pvR 11 0 129), some (pvI x1), some (pvI x2), some (pvI x3), some (pvI x4), some (pvI x5), none, none, none] [] (true, n, e, σ) (0, some (pvI r.1), true, n, e, r.2)
  refine go_aload_n (pc' := 1) dX11_fact_0 rfl rfl (Nat.le_of_ble_eq_true rfl) ?_
  refine go_iload_n (pc' := 2) dX11_fact_1 rfl rfl ?_
  refine go_iload_n (pc' := 3) dX11_fact_2 rfl rfl ?_
  refine go_iload_n (pc' := 4) dX11_fact_3 rfl rfl ?_
  refine go_iload (pc' := 6) dX11_fact_4 rfl rfl ?_
  obtain ⟨v1, k2, h⟩ := bd h
  have k2 := l_M_areThere (d + 2) n e σ x1 x2 x3 x4 _ k2
  refine go_call (kc := 196) (Mc := mt196) (v := some (pvI v1)) (w' := (true, n, e, σ)) (pc' := 9) (st' := [pvI v1]) [pvR 11 0 129, pvI x1, pvI x2, pvI x3, pvI x4] [] (Or.inl rfl) dX11_fact_6 rfl rm_11_233 mtE196 rfl rfl rfl (Nat.le_of_ble_eq_true rfl) (Or.inr ⟨_, _, 129, rfl, Or.inl rfl⟩) k2 rfl ?_
  refine go_istore (L' := [some (pvR 11 0 129), some (pvI x1), some (pvI x2), some (pvI x3), some (pvI x4), some (pvI x5), some (pvI v1), none, none]) (pc' := 11) dX11_fact_9 rfl (Nat.le_of_ble_eq_true rfl) rfl ?_
  refine go_iload (pc' := 13) dX11_fact_11 rfl rfl ?_
  obtain ⟨j3, k4, h⟩ := bd h
  have k4J : Go none (Ev (d + 6)) mt195 29 [some (pvR 11 0 129), some (pvI x1), some (pvI x2), some (pvI x3), some (pvI x4), some (pvI x5), some (pvI v1), none, none] [pvI j3] (true, n, e, σ) (0, some (pvI r.1), true, n, e, r.2) := by
    refine go_istore (L' := [some (pvR 11 0 129), some (pvI x1), some (pvI x2), some (pvI x3), some (pvI x4), some (pvI x5), some (pvI v1), some (pvI j3), none]) (pc' := 31) dX11_fact_29 rfl (Nat.le_of_ble_eq_true rfl) rfl ?_
    refine go_iload (pc' := 33) dX11_fact_31 rfl rfl ?_
    obtain ⟨j7, k8, h⟩ := bd h
    have k8J : Go none (Ev (d + 6)) mt195 93 [some (pvR 11 0 129), some (pvI x1), some (pvI x2), some (pvI x3), some (pvI x4), some (pvI x5), some (pvI v1), some (pvI j3), none] [pvI j7] (true, n, e, σ) (0, some (pvI r.1), true, n, e, r.2) := by
      refine go_istore (L' := [some (pvR 11 0 129), some (pvI x1), some (pvI x2), some (pvI x3), some (pvI x4), some (pvI x5), some (pvI v1), some (pvI j3), some (pvI j7)]) (pc' := 95) dX11_fact_93 rfl (Nat.le_of_ble_eq_true rfl) rfl ?_
      refine go_aload_n (pc' := 96) dX11_fact_95 rfl rfl (Nat.le_of_ble_eq_true rfl) ?_
      refine go_iload (pc' := 98) dX11_fact_96 rfl rfl ?_
      obtain ⟨j22, k23, h⟩ := bd h
      have k23J : Go none (Ev (d + 6)) mt195 135 [some (pvR 11 0 129), some (pvI x1), some (pvI x2), some (pvI x3), some (pvI x4), some (pvI x5), some (pvI v1), some (pvI j3), some (pvI j7)] [pvI j22, pvR 11 0 129] (true, n, e, σ) (0, some (pvI r.1), true, n, e, r.2) := by
        obtain ⟨v28, k29, h⟩ := bd h
        have k29 := l_M_holds (d + 5) n e σ j22 _ k29
        refine go_call (kc := 174) (Mc := mt174) (v := some (pvI v28.1)) (w' := (true, n, e, v28.2)) (pc' := 138) (st' := [pvI v28.1]) [pvR 11 0 129, pvI j22] [] (Or.inl rfl) dX11_fact_135 rfl rm_11_185 mtE174 rfl rfl rfl (Nat.le_of_ble_eq_true rfl) (Or.inr ⟨_, _, 129, rfl, Or.inl rfl⟩) k29 rfl ?_
        refine go_if_eq (t := 143) (pc' := 141) dX11_fact_138 rfl rfl (fun c32 => ?_) (fun c32 => ?_)
        · rw [if_pos (show v28.1 = 0 from c32)] at h
          refine go_aload_n (pc' := 144) dX11_fact_143 rfl rfl (Nat.le_of_ble_eq_true rfl) ?_
          refine go_iload (pc' := 146) dX11_fact_144 rfl rfl ?_
          refine go_iload_n (pc' := 147) dX11_fact_146 rfl rfl ?_
          refine go_iload_n (pc' := 148) dX11_fact_147 rfl rfl ?_
          refine go_iload_n (pc' := 149) dX11_fact_148 rfl rfl ?_
          refine go_iload (pc' := 151) dX11_fact_149 rfl rfl ?_
          refine go_iload (pc' := 153) dX11_fact_151 rfl rfl ?_
          obtain ⟨v30, k31, h⟩ := bd h
          have k31 := l_M_put (d + 0) n e v28.2 j3 x1 x2 x3 x4 x5 _ k31
          refine go_call (kc := 198) (Mc := mt198) (v := some (pvI v30.1)) (w' := (true, n, e, v30.2)) (pc' := 156) (st' := [pvI v30.1]) [pvR 11 0 129, pvI j3, pvI x1, pvI x2, pvI x3, pvI x4, pvI x5] [] (Or.inl rfl) dX11_fact_153 rfl rm_11_241 mtE198 rfl rfl rfl (Nat.le_of_ble_eq_true rfl) (Or.inr ⟨_, _, 129, rfl, Or.inl rfl⟩) k31 rfl ?_
          refine go_pop (pc' := 157) dX11_fact_156 rfl (Nat.ne_of_beq_eq_false rfl) ?_
          refine go_aload_n (pc' := 158) dX11_fact_157 rfl rfl (Nat.le_of_ble_eq_true rfl) ?_
          refine go_getI (pc' := 161) dX11_fact_158 rfl rf_11_230 rfl ?_
          cases h
          exact go_iret dX11_fact_161 rfl rfl
        · rw [if_neg (show ¬ (v28.1 = 0) from c32)] at h
          refine go_iconst (pc' := 142) dX11_fact_141 rfl (r32_c rfl) ?_
          cases h
          exact go_iret dX11_fact_142 rfl rfl
      clear h
      have h := k23
      refine go_if_ne (t := 105) (pc' := 101) dX11_fact_98 rfl rfl (fun c33 => ?_) (fun c33 => ?_)
      · rw [if_pos (show v1 ≠ 0 from c33)] at h
        refine go_aload_n (pc' := 106) dX11_fact_105 rfl rfl (Nat.le_of_ble_eq_true rfl) ?_
        refine go_iload (pc' := 108) dX11_fact_106 rfl rfl ?_
        refine go_i2l (pc' := 109) dX11_fact_108 rfl ?_
        refine go_ldc2 (pc' := 112) dX11_fact_109 rfl (r64_c rfl) rc_11_213 ?_
        refine go_ldc2 (pc' := 115) dX11_fact_112 rfl (r64_c rfl) rc_11_215 ?_
        obtain ⟨v24, k25, h⟩ := bd h
        have k25 := l_M_in (d + 5) n e σ x5 (-1000000) 1000000 _ k25
        refine go_call (kc := 172) (Mc := mt172) (v := some (pvI v24)) (w' := (true, n, e, σ)) (pc' := 118) (st' := [pvI v24, pvR 11 0 129]) [pvR 11 0 129, pvL x5, pvL (-1000000), pvL 1000000] [pvR 11 0 129] (Or.inl rfl) dX11_fact_115 rfl rm_11_145 mtE172 rfl rfl rfl (Nat.le_of_ble_eq_true rfl) (Or.inr ⟨_, _, 129, rfl, Or.inl rfl⟩) k25 rfl ?_
        refine go_if_ne (t := 125) (pc' := 121) dX11_fact_118 rfl rfl (fun c27 => ?_) (fun c27 => ?_)
        · rw [if_pos (show v24 ≠ 0 from c27)] at h
          refine go_iload (pc' := 127) dX11_fact_125 rfl rfl ?_
          refine go_if_eq (t := 134) (pc' := 130) dX11_fact_127 rfl rfl (fun c26 => ?_) (fun c26 => ?_)
          · rw [if_pos (show j7 = 0 from c26)] at h
            refine go_iconst (pc' := 135) dX11_fact_134 rfl (r32_c rfl) ?_
            cases h
            exact k23J
          · rw [if_neg (show ¬ (j7 = 0) from c26)] at h
            refine go_iconst (pc' := 131) dX11_fact_130 rfl (r32_c rfl) ?_
            refine go_goto (t := 135) dX11_fact_131 rfl ?_
            cases h
            exact k23J
        · rw [if_neg (show ¬ (v24 ≠ 0) from c27)] at h
          refine go_iconst (pc' := 122) dX11_fact_121 rfl (r32_c rfl) ?_
          refine go_goto (t := 135) dX11_fact_122 rfl ?_
          cases h
          exact k23J
      · rw [if_neg (show ¬ (v1 ≠ 0) from c33)] at h
        refine go_iconst (pc' := 102) dX11_fact_101 rfl (r32_c rfl) ?_
        refine go_goto (t := 135) dX11_fact_102 rfl ?_
        cases h
        exact k23J
    clear h
    have h := k8
    refine go_if_eq (t := 92) (pc' := 36) dX11_fact_33 rfl rfl (fun c34 => ?_) (fun c34 => ?_)
    · rw [if_pos (show v1 = 0 from c34)] at h
      refine go_iconst (pc' := 93) dX11_fact_92 rfl (r32_c rfl) ?_
      cases h
      exact k8J
    · rw [if_neg (show ¬ (v1 = 0) from c34)] at h
      refine go_aload_n (pc' := 37) dX11_fact_36 rfl rfl (Nat.le_of_ble_eq_true rfl) ?_
      refine go_iconst (pc' := 38) dX11_fact_37 rfl (r32_c rfl) ?_
      refine go_iload_n (pc' := 39) dX11_fact_38 rfl rfl ?_
      obtain ⟨v9, k10, h⟩ := bd h
      have k10 := l_M_isPlain (d + 5) n e σ 0 x1 _ k10
      refine go_call (kc := 173) (Mc := mt173) (v := some (pvI v9)) (w' := (true, n, e, σ)) (pc' := 42) (st' := [pvI v9]) [pvR 11 0 129, pvI 0, pvI x1] [] (Or.inl rfl) dX11_fact_39 rfl rm_11_180 mtE173 rfl rfl rfl (Nat.le_of_ble_eq_true rfl) (Or.inr ⟨_, _, 129, rfl, Or.inl rfl⟩) k10 rfl ?_
      refine go_if_eq (t := 88) (pc' := 45) dX11_fact_42 rfl rfl (fun c21 => ?_) (fun c21 => ?_)
      · rw [if_pos (show v9 = 0 from c21)] at h
        refine go_iconst (pc' := 89) dX11_fact_88 rfl (r32_c rfl) ?_
        refine go_goto (t := 93) dX11_fact_89 rfl ?_
        cases h
        exact k8J
      · rw [if_neg (show ¬ (v9 = 0) from c21)] at h
        refine go_aload_n (pc' := 46) dX11_fact_45 rfl rfl (Nat.le_of_ble_eq_true rfl) ?_
        refine go_iconst (pc' := 47) dX11_fact_46 rfl (r32_c rfl) ?_
        refine go_iload_n (pc' := 48) dX11_fact_47 rfl rfl ?_
        obtain ⟨v11, k12, h⟩ := bd h
        have k12 := l_M_isPlain (d + 5) n e σ 1 x2 _ k12
        refine go_call (kc := 173) (Mc := mt173) (v := some (pvI v11)) (w' := (true, n, e, σ)) (pc' := 51) (st' := [pvI v11]) [pvR 11 0 129, pvI 1, pvI x2] [] (Or.inl rfl) dX11_fact_48 rfl rm_11_180 mtE173 rfl rfl rfl (Nat.le_of_ble_eq_true rfl) (Or.inr ⟨_, _, 129, rfl, Or.inl rfl⟩) k12 rfl ?_
        refine go_if_eq (t := 88) (pc' := 54) dX11_fact_51 rfl rfl (fun c20 => ?_) (fun c20 => ?_)
        · rw [if_pos (show v11 = 0 from c20)] at h
          refine go_iconst (pc' := 89) dX11_fact_88 rfl (r32_c rfl) ?_
          refine go_goto (t := 93) dX11_fact_89 rfl ?_
          cases h
          exact k8J
        · rw [if_neg (show ¬ (v11 = 0) from c20)] at h
          refine go_aload_n (pc' := 55) dX11_fact_54 rfl rfl (Nat.le_of_ble_eq_true rfl) ?_
          refine go_iconst (pc' := 56) dX11_fact_55 rfl (r32_c rfl) ?_
          refine go_iload_n (pc' := 57) dX11_fact_56 rfl rfl ?_
          obtain ⟨v13, k14, h⟩ := bd h
          have k14 := l_M_isPlain (d + 5) n e σ 2 x3 _ k14
          refine go_call (kc := 173) (Mc := mt173) (v := some (pvI v13)) (w' := (true, n, e, σ)) (pc' := 60) (st' := [pvI v13]) [pvR 11 0 129, pvI 2, pvI x3] [] (Or.inl rfl) dX11_fact_57 rfl rm_11_180 mtE173 rfl rfl rfl (Nat.le_of_ble_eq_true rfl) (Or.inr ⟨_, _, 129, rfl, Or.inl rfl⟩) k14 rfl ?_
          refine go_if_eq (t := 88) (pc' := 63) dX11_fact_60 rfl rfl (fun c19 => ?_) (fun c19 => ?_)
          · rw [if_pos (show v13 = 0 from c19)] at h
            refine go_iconst (pc' := 89) dX11_fact_88 rfl (r32_c rfl) ?_
            refine go_goto (t := 93) dX11_fact_89 rfl ?_
            cases h
            exact k8J
          · rw [if_neg (show ¬ (v13 = 0) from c19)] at h
            refine go_aload_n (pc' := 64) dX11_fact_63 rfl rfl (Nat.le_of_ble_eq_true rfl) ?_
            refine go_getR (k' := 12) (L0 := 4) (P' := 146) (pc' := 67) dX11_fact_64 rfl rf_11_60 rfl rfl (by omega) ?_
            refine go_iload (pc' := 69) dX11_fact_67 rfl rfl ?_
            obtain ⟨g15, h⟩ := gd h
            refine go_iald (pc' := 70) dX11_fact_69 rfl g15 ?_
            refine go_iconst (pc' := 71) dX11_fact_70 rfl (r32_c rfl) ?_
            refine go_icmp_eq (t := 88) (pc' := 74) dX11_fact_71 rfl rfl (fun c18 => ?_) (fun c18 => ?_)
            · rw [if_pos (show (σ 146 x4) = 3 from c18)] at h
              refine go_iconst (pc' := 89) dX11_fact_88 rfl (r32_c rfl) ?_
              refine go_goto (t := 93) dX11_fact_89 rfl ?_
              cases h
              exact k8J
            · rw [if_neg (show ¬ ((σ 146 x4) = 3) from c18)] at h
              refine go_iload (pc' := 76) dX11_fact_74 rfl rfl ?_
              refine go_if_ge (t := 92) (pc' := 79) dX11_fact_76 rfl rfl (fun c17 => ?_) (fun c17 => ?_)
              · rw [if_pos (show 0 ≤ j3 from c17)] at h
                refine go_iconst (pc' := 93) dX11_fact_92 rfl (r32_c rfl) ?_
                cases h
                exact k8J
              · rw [if_neg (show ¬ (0 ≤ j3) from c17)] at h
                refine go_aload_n (pc' := 80) dX11_fact_79 rfl rfl (Nat.le_of_ble_eq_true rfl) ?_
                refine go_getI (pc' := 83) dX11_fact_80 rfl rf_11_230 rfl ?_
                refine go_bipush (pc' := 85) dX11_fact_83 rfl (r32_c rfl) (by decide) ?_
                refine go_icmp_ne (t := 92) (pc' := 88) dX11_fact_85 rfl rfl (fun c16 => ?_) (fun c16 => ?_)
                · rw [if_pos (show (σ 129 29) ≠ 50 from c16)] at h
                  refine go_iconst (pc' := 93) dX11_fact_92 rfl (r32_c rfl) ?_
                  cases h
                  exact k8J
                · rw [if_neg (show ¬ ((σ 129 29) ≠ 50) from c16)] at h
                  refine go_iconst (pc' := 89) dX11_fact_88 rfl (r32_c rfl) ?_
                  refine go_goto (t := 93) dX11_fact_89 rfl ?_
                  cases h
                  exact k8J
  clear h
  have h := k4
  refine go_if_eq (t := 28) (pc' := 16) dX11_fact_13 rfl rfl (fun c35 => ?_) (fun c35 => ?_)
  · rw [if_pos (show v1 = 0 from c35)] at h
    refine go_iconst (pc' := 29) dX11_fact_28 rfl (r32_c rfl) ?_
    cases h
    exact k4J
  · rw [if_neg (show ¬ (v1 = 0) from c35)] at h
    refine go_aload_n (pc' := 17) dX11_fact_16 rfl rfl (Nat.le_of_ble_eq_true rfl) ?_
    refine go_iload_n (pc' := 18) dX11_fact_17 rfl rfl ?_
    refine go_iload_n (pc' := 19) dX11_fact_18 rfl rfl ?_
    refine go_iload_n (pc' := 20) dX11_fact_19 rfl rfl ?_
    refine go_iload (pc' := 22) dX11_fact_20 rfl rfl ?_
    obtain ⟨v5, k6, h⟩ := bd h
    have k6 := l_M_found (d + 5) n e σ x1 x2 x3 x4 _ k6
    refine go_call (kc := 197) (Mc := mt197) (v := some (pvI v5)) (w' := (true, n, e, σ)) (pc' := 25) (st' := [pvI v5]) [pvR 11 0 129, pvI x1, pvI x2, pvI x3, pvI x4] [] (Or.inl rfl) dX11_fact_22 rfl rm_11_237 mtE197 rfl rfl rfl (Nat.le_of_ble_eq_true rfl) (Or.inr ⟨_, _, 129, rfl, Or.inl rfl⟩) k6 rfl ?_
    refine go_goto (t := 29) dX11_fact_25 rfl ?_
    cases h
    exact k4J

set_option maxRecDepth 10000 in
theorem l_M_forget_88 (d : Nat) (n : Nat) (e : Nat) (x1 : Int) (x2 : Int) (x3 : Int) (x4 : Int) (j3 : Int) (v1 : Int) (v10 : Int × Hp) {out : Out} : ∀ (F : Nat) (y16 : Int) (σ17 : Hp) (j32 : Int × Hp), f_M_forget_88 F y16 σ17 = some j32 → Go none (Ev (d + 5)) mt206 154 [some (pvR 11 0 129), some (pvI x1), some (pvI x2), some (pvI x3), some (pvI x4), some (pvI v1), some (pvI j3), some (pvI (v10.2 154 j3)), some (pvI j32.1)] [] (true, n, e, j32.2) out → Go none (Ev (d + 5)) mt206 88 [some (pvR 11 0 129), some (pvI x1), some (pvI x2), some (pvI x3), some (pvI x4), some (pvI v1), some (pvI j3), some (pvI (v10.2 154 j3)), some (pvI y16)] [] (true, n, e, σ17) out := by
  intro F
  induction F with
  | zero =>
    intro _ _ _ h
    intro _
    rw [f_M_forget_88] at h
    cases h
  | succ F ih =>
    intro y16 σ17 j32 h hx
    rw [f_M_forget_88] at h
    refine go_iload (pc' := 90) dX11_forget_88 rfl rfl ?_
    refine go_aload_n (pc' := 91) dX11_forget_90 rfl rfl (Nat.le_of_ble_eq_true rfl) ?_
    refine go_getI (pc' := 94) dX11_forget_91 rfl rf_11_230 rfl ?_
    refine go_icmp_ge (t := 154) (pc' := 97) dX11_forget_94 rfl rfl (fun c31 => ?_) (fun c31 => ?_)
    · rw [if_pos (show (σ17 129 29) ≤ y16 from c31)] at h
      cases h
      exact hx
    · rw [if_neg (show ¬ ((σ17 129 29) ≤ y16) from c31)] at h
      refine go_aload_n (pc' := 98) dX11_forget_97 rfl rfl (Nat.le_of_ble_eq_true rfl) ?_
      refine go_iload (pc' := 100) dX11_forget_98 rfl rfl ?_
      refine go_aload_n (pc' := 101) dX11_forget_100 rfl rfl (Nat.le_of_ble_eq_true rfl) ?_
      refine go_getR (k' := 12) (L0 := 51) (P' := 150) (pc' := 104) dX11_forget_101 rfl rf_11_72 rfl rfl (by omega) ?_
      refine go_iload (pc' := 106) dX11_forget_104 rfl rfl ?_
      refine go_iconst (pc' := 107) dX11_forget_106 rfl (r32_c rfl) ?_
      obtain ⟨g18, h⟩ := gd h
      refine go_iadd (pc' := 108) dX11_forget_107 rfl g18 ?_
      obtain ⟨g19, h⟩ := gd h
      refine go_iald (pc' := 109) dX11_forget_108 rfl g19 ?_
      refine go_aload_n (pc' := 110) dX11_forget_109 rfl rfl (Nat.le_of_ble_eq_true rfl) ?_
      refine go_getR (k' := 12) (L0 := 51) (P' := 151) (pc' := 113) dX11_forget_110 rfl rf_11_75 rfl rfl (by omega) ?_
      refine go_iload (pc' := 115) dX11_forget_113 rfl rfl ?_
      refine go_iconst (pc' := 116) dX11_forget_115 rfl (r32_c rfl) ?_
      obtain ⟨g20, h⟩ := gd h
      refine go_iadd (pc' := 117) dX11_forget_116 rfl g20 ?_
      obtain ⟨g21, h⟩ := gd h
      refine go_iald (pc' := 118) dX11_forget_117 rfl g21 ?_
      refine go_aload_n (pc' := 119) dX11_forget_118 rfl rfl (Nat.le_of_ble_eq_true rfl) ?_
      refine go_getR (k' := 12) (L0 := 51) (P' := 152) (pc' := 122) dX11_forget_119 rfl rf_11_78 rfl rfl (by omega) ?_
      refine go_iload (pc' := 124) dX11_forget_122 rfl rfl ?_
      refine go_iconst (pc' := 125) dX11_forget_124 rfl (r32_c rfl) ?_
      obtain ⟨g22, h⟩ := gd h
      refine go_iadd (pc' := 126) dX11_forget_125 rfl g22 ?_
      obtain ⟨g23, h⟩ := gd h
      refine go_iald (pc' := 127) dX11_forget_126 rfl g23 ?_
      refine go_aload_n (pc' := 128) dX11_forget_127 rfl rfl (Nat.le_of_ble_eq_true rfl) ?_
      refine go_getR (k' := 12) (L0 := 51) (P' := 153) (pc' := 131) dX11_forget_128 rfl rf_11_81 rfl rfl (by omega) ?_
      refine go_iload (pc' := 133) dX11_forget_131 rfl rfl ?_
      refine go_iconst (pc' := 134) dX11_forget_133 rfl (r32_c rfl) ?_
      obtain ⟨g24, h⟩ := gd h
      refine go_iadd (pc' := 135) dX11_forget_134 rfl g24 ?_
      obtain ⟨g25, h⟩ := gd h
      refine go_iald (pc' := 136) dX11_forget_135 rfl g25 ?_
      refine go_aload_n (pc' := 137) dX11_forget_136 rfl rfl (Nat.le_of_ble_eq_true rfl) ?_
      refine go_getR (k' := 12) (L0 := 51) (P' := 154) (pc' := 140) dX11_forget_137 rfl rf_11_84 rfl rfl (by omega) ?_
      refine go_iload (pc' := 142) dX11_forget_140 rfl rfl ?_
      refine go_iconst (pc' := 143) dX11_forget_142 rfl (r32_c rfl) ?_
      obtain ⟨g26, h⟩ := gd h
      refine go_iadd (pc' := 144) dX11_forget_143 rfl g26 ?_
      obtain ⟨g27, h⟩ := gd h
      refine go_iald (pc' := 145) dX11_forget_144 rfl g27 ?_
      obtain ⟨v28, k29, h⟩ := bd h
      have k29 := l_M_lay (d + 4) n e σ17 y16 (σ17 150 (y16 + 1)) (σ17 151 (y16 + 1)) (σ17 152 (y16 + 1)) (σ17 153 (y16 + 1)) (σ17 154 (y16 + 1)) _ k29
      refine go_call (kc := 199) (Mc := mt199) (v := none) (w' := (true, n, e, v28)) (pc' := 148) (st' := []) [pvR 11 0 129, pvI y16, pvI (σ17 150 (y16 + 1)), pvI (σ17 151 (y16 + 1)), pvI (σ17 152 (y16 + 1)), pvI (σ17 153 (y16 + 1)), pvI (σ17 154 (y16 + 1))] [] (Or.inl rfl) dX11_forget_145 rfl rm_11_245 mtE199 rfl rfl rfl (Nat.le_of_ble_eq_true rfl) (Or.inr ⟨_, _, 129, rfl, Or.inl rfl⟩) k29 rfl ?_
      obtain ⟨g30, h⟩ := gd h
      refine go_iinc (L' := [some (pvR 11 0 129), some (pvI x1), some (pvI x2), some (pvI x3), some (pvI x4), some (pvI v1), some (pvI j3), some (pvI (v10.2 154 j3)), some (pvI (y16 + 1))]) (pc' := 151) dX11_forget_148 rfl rfl g30 rfl ?_
      refine go_goto (t := 88) dX11_forget_151 rfl ?_
      exact ih (y16 + 1) v28 _ h hx

set_option maxRecDepth 10000 in
theorem l_M_forget (d : Nat) (n e : Nat) (σ : Hp) (x1 : Int) (x2 : Int) (x3 : Int) (x4 : Int) (r : Int × Hp) (h : f_M_forget σ x1 x2 x3 x4 = some r) : Ev (d + 6) 206 [pvR 11 0 129, pvI x1, pvI x2, pvI x3, pvI x4] (true, n, e, σ) (0, some (pvI r.1), true, n, e, r.2) := by
  unfold f_M_forget at h
  refine Ev.of mtE206 rfl rfl rfl rfl ?_
  show Go none (Ev (d + 5)) mt206 0 [some (pvR 11 0 129), some (pvI x1), some (pvI x2), some (pvI x3), some (pvI x4), none, none, none, none] [] (true, n, e, σ) (0, some (pvI r.1), true, n, e, r.2)
  refine go_aload_n (pc' := 1) dX11_forget_0 rfl rfl (Nat.le_of_ble_eq_true rfl) ?_
  refine go_iload_n (pc' := 2) dX11_forget_1 rfl rfl ?_
  refine go_iload_n (pc' := 3) dX11_forget_2 rfl rfl ?_
  refine go_iload_n (pc' := 4) dX11_forget_3 rfl rfl ?_
  refine go_iload (pc' := 6) dX11_forget_4 rfl rfl ?_
  obtain ⟨v1, k2, h⟩ := bd h
  have k2 := l_M_areThere (d + 1) n e σ x1 x2 x3 x4 _ k2
  refine go_call (kc := 196) (Mc := mt196) (v := some (pvI v1)) (w' := (true, n, e, σ)) (pc' := 9) (st' := [pvI v1]) [pvR 11 0 129, pvI x1, pvI x2, pvI x3, pvI x4] [] (Or.inl rfl) dX11_forget_6 rfl rm_11_233 mtE196 rfl rfl rfl (Nat.le_of_ble_eq_true rfl) (Or.inr ⟨_, _, 129, rfl, Or.inl rfl⟩) k2 rfl ?_
  refine go_istore (L' := [some (pvR 11 0 129), some (pvI x1), some (pvI x2), some (pvI x3), some (pvI x4), some (pvI v1), none, none, none]) (pc' := 11) dX11_forget_9 rfl (Nat.le_of_ble_eq_true rfl) rfl ?_
  refine go_iload (pc' := 13) dX11_forget_11 rfl rfl ?_
  obtain ⟨j3, k4, h⟩ := bd h
  have k4J : Go none (Ev (d + 5)) mt206 29 [some (pvR 11 0 129), some (pvI x1), some (pvI x2), some (pvI x3), some (pvI x4), some (pvI v1), none, none, none] [pvI j3] (true, n, e, σ) (0, some (pvI r.1), true, n, e, r.2) := by
    refine go_istore (L' := [some (pvR 11 0 129), some (pvI x1), some (pvI x2), some (pvI x3), some (pvI x4), some (pvI v1), some (pvI j3), none, none]) (pc' := 31) dX11_forget_29 rfl (Nat.le_of_ble_eq_true rfl) rfl ?_
    refine go_aload_n (pc' := 32) dX11_forget_31 rfl rfl (Nat.le_of_ble_eq_true rfl) ?_
    refine go_iload (pc' := 34) dX11_forget_32 rfl rfl ?_
    obtain ⟨j7, k8, h⟩ := bd h
    have k8J : Go none (Ev (d + 5)) mt206 51 [some (pvR 11 0 129), some (pvI x1), some (pvI x2), some (pvI x3), some (pvI x4), some (pvI v1), some (pvI j3), none, none] [pvI j7, pvR 11 0 129] (true, n, e, σ) (0, some (pvI r.1), true, n, e, r.2) := by
      obtain ⟨v10, k11, h⟩ := bd h
      have k11 := l_M_holds (d + 4) n e σ j7 _ k11
      refine go_call (kc := 174) (Mc := mt174) (v := some (pvI v10.1)) (w' := (true, n, e, v10.2)) (pc' := 54) (st' := [pvI v10.1]) [pvR 11 0 129, pvI j7] [] (Or.inl rfl) dX11_forget_51 rfl rm_11_185 mtE174 rfl rfl rfl (Nat.le_of_ble_eq_true rfl) (Or.inr ⟨_, _, 129, rfl, Or.inl rfl⟩) k11 rfl ?_
      refine go_if_eq (t := 59) (pc' := 57) dX11_forget_54 rfl rfl (fun c35 => ?_) (fun c35 => ?_)
      · rw [if_pos (show v10.1 = 0 from c35)] at h
        refine go_aload_n (pc' := 60) dX11_forget_59 rfl rfl (Nat.le_of_ble_eq_true rfl) ?_
        refine go_getR (k' := 12) (L0 := 51) (P' := 154) (pc' := 63) dX11_forget_60 rfl rf_11_84 rfl rfl (by omega) ?_
        refine go_iload (pc' := 65) dX11_forget_63 rfl rfl ?_
        obtain ⟨g12, h⟩ := gd h
        refine go_iald (pc' := 66) dX11_forget_65 rfl g12 ?_
        refine go_istore (L' := [some (pvR 11 0 129), some (pvI x1), some (pvI x2), some (pvI x3), some (pvI x4), some (pvI v1), some (pvI j3), some (pvI (v10.2 154 j3)), none]) (pc' := 68) dX11_forget_66 rfl (Nat.le_of_ble_eq_true rfl) rfl ?_
        refine go_aload_n (pc' := 69) dX11_forget_68 rfl rfl (Nat.le_of_ble_eq_true rfl) ?_
        refine go_iload (pc' := 71) dX11_forget_69 rfl rfl ?_
        obtain ⟨v13, k14, h⟩ := bd h
        have k14 := l_M_drop (d + 0) n e v10.2 j3 _ k14
        refine go_call (kc := 200) (Mc := mt200) (v := none) (w' := (true, n, e, v13)) (pc' := 74) (st' := []) [pvR 11 0 129, pvI j3] [] (Or.inl rfl) dX11_forget_71 rfl rm_11_249 mtE200 rfl rfl rfl (Nat.le_of_ble_eq_true rfl) (Or.inr ⟨_, _, 129, rfl, Or.inl rfl⟩) k14 rfl ?_
        refine go_aload_n (pc' := 75) dX11_forget_74 rfl rfl (Nat.le_of_ble_eq_true rfl) ?_
        refine go_dup (pc' := 76) dX11_forget_75 rfl (Nat.ne_of_beq_eq_false rfl) ?_
        refine go_getI (pc' := 79) dX11_forget_76 rfl rf_11_230 rfl ?_
        refine go_iconst (pc' := 80) dX11_forget_79 rfl (r32_c rfl) ?_
        obtain ⟨g15, h⟩ := gd h
        refine go_isub (pc' := 81) dX11_forget_80 rfl g15 ?_
        refine go_putI (pc' := 84) dX11_forget_81 rfl rf_11_230 rfl ?_
        refine go_iload (pc' := 86) dX11_forget_84 rfl rfl ?_
        refine go_istore (L' := [some (pvR 11 0 129), some (pvI x1), some (pvI x2), some (pvI x3), some (pvI x4), some (pvI v1), some (pvI j3), some (pvI (v10.2 154 j3)), some (pvI j3)]) (pc' := 88) dX11_forget_86 rfl (Nat.le_of_ble_eq_true rfl) rfl ?_
        obtain ⟨j33, k34, h⟩ := bd h
        refine l_M_forget_88 d n e x1 x2 x3 x4 j3 v1 v10 zFuel j3 (hset v13 129 29 ((v13 129 29) - 1)) _ k34 ?_
        refine go_iload (pc' := 156) dX11_forget_154 rfl rfl ?_
        cases h
        exact go_iret dX11_forget_156 rfl rfl
      · rw [if_neg (show ¬ (v10.1 = 0) from c35)] at h
        refine go_iconst (pc' := 58) dX11_forget_57 rfl (r32_c rfl) ?_
        cases h
        exact go_iret dX11_forget_58 rfl rfl
    clear h
    have h := k8
    refine go_if_ne (t := 41) (pc' := 37) dX11_forget_34 rfl rfl (fun c36 => ?_) (fun c36 => ?_)
    · rw [if_pos (show v1 ≠ 0 from c36)] at h
      refine go_iload (pc' := 43) dX11_forget_41 rfl rfl ?_
      refine go_if_ge (t := 50) (pc' := 46) dX11_forget_43 rfl rfl (fun c9 => ?_) (fun c9 => ?_)
      · rw [if_pos (show 0 ≤ j3 from c9)] at h
        refine go_iconst (pc' := 51) dX11_forget_50 rfl (r32_c rfl) ?_
        cases h
        exact k8J
      · rw [if_neg (show ¬ (0 ≤ j3) from c9)] at h
        refine go_iconst (pc' := 47) dX11_forget_46 rfl (r32_c rfl) ?_
        refine go_goto (t := 51) dX11_forget_47 rfl ?_
        cases h
        exact k8J
    · rw [if_neg (show ¬ (v1 ≠ 0) from c36)] at h
      refine go_iconst (pc' := 38) dX11_forget_37 rfl (r32_c rfl) ?_
      refine go_goto (t := 51) dX11_forget_38 rfl ?_
      cases h
      exact k8J
  clear h
  have h := k4
  refine go_if_eq (t := 28) (pc' := 16) dX11_forget_13 rfl rfl (fun c37 => ?_) (fun c37 => ?_)
  · rw [if_pos (show v1 = 0 from c37)] at h
    refine go_iconst (pc' := 29) dX11_forget_28 rfl (r32_c rfl) ?_
    cases h
    exact k4J
  · rw [if_neg (show ¬ (v1 = 0) from c37)] at h
    refine go_aload_n (pc' := 17) dX11_forget_16 rfl rfl (Nat.le_of_ble_eq_true rfl) ?_
    refine go_iload_n (pc' := 18) dX11_forget_17 rfl rfl ?_
    refine go_iload_n (pc' := 19) dX11_forget_18 rfl rfl ?_
    refine go_iload_n (pc' := 20) dX11_forget_19 rfl rfl ?_
    refine go_iload (pc' := 22) dX11_forget_20 rfl rfl ?_
    obtain ⟨v5, k6, h⟩ := bd h
    have k6 := l_M_found (d + 4) n e σ x1 x2 x3 x4 _ k6
    refine go_call (kc := 197) (Mc := mt197) (v := some (pvI v5)) (w' := (true, n, e, σ)) (pc' := 25) (st' := [pvI v5]) [pvR 11 0 129, pvI x1, pvI x2, pvI x3, pvI x4] [] (Or.inl rfl) dX11_forget_22 rfl rm_11_237 mtE197 rfl rfl rfl (Nat.le_of_ble_eq_true rfl) (Or.inr ⟨_, _, 129, rfl, Or.inl rfl⟩) k6 rfl ?_
    refine go_goto (t := 29) dX11_forget_25 rfl ?_
    cases h
    exact k4J

set_option maxRecDepth 10000 in
theorem l_M_areSeen (d : Nat) (n e : Nat) (σ : Hp) (x1 : Int) (x2 : Int) (x3 : Int) (r : Int) (h : f_M_areSeen σ x1 x2 x3 = some r) : Ev (d + 4) 208 [pvR 11 0 129, pvI x1, pvI x2, pvI x3] (true, n, e, σ) (0, some (pvI r), true, n, e, σ) := by
  unfold f_M_areSeen at h
  refine Ev.of mtE208 rfl rfl rfl rfl ?_
  show Go none (Ev (d + 3)) mt208 0 [some (pvR 11 0 129), some (pvI x1), some (pvI x2), some (pvI x3)] [] (true, n, e, σ) (0, some (pvI r), true, n, e, σ)
  refine go_aload_n (pc' := 1) dX11_areSeen_0 rfl rfl (Nat.le_of_ble_eq_true rfl) ?_
  refine go_iconst (pc' := 2) dX11_areSeen_1 rfl (r32_c rfl) ?_
  refine go_iload_n (pc' := 3) dX11_areSeen_2 rfl rfl ?_
  obtain ⟨v1, k2, h⟩ := bd h
  have k2 := l_M_seen (d + 0) n e σ 0 x1 _ k2
  refine go_call (kc := 186) (Mc := mt186) (v := some (pvI v1)) (w' := (true, n, e, σ)) (pc' := 6) (st' := [pvI v1]) [pvR 11 0 129, pvI 0, pvI x1] [] (Or.inl rfl) dX11_areSeen_3 rfl rm_11_208 mtE186 rfl rfl rfl (Nat.le_of_ble_eq_true rfl) (Or.inr ⟨_, _, 129, rfl, Or.inl rfl⟩) k2 rfl ?_
  obtain ⟨j3, k4, h⟩ := bd h
  have k4J : Go none (Ev (d + 3)) mt208 32 [some (pvR 11 0 129), some (pvI x1), some (pvI x2), some (pvI x3)] [pvI j3] (true, n, e, σ) (0, some (pvI r), true, n, e, σ) := by
    obtain ⟨g11, h⟩ := gd h
    cases h
    exact go_zret dX11_areSeen_32 rfl g11 rfl
  clear h
  have h := k4
  refine go_if_eq (t := 31) (pc' := 9) dX11_areSeen_6 rfl rfl (fun c12 => ?_) (fun c12 => ?_)
  · rw [if_pos (show v1 = 0 from c12)] at h
    refine go_iconst (pc' := 32) dX11_areSeen_31 rfl (r32_c rfl) ?_
    cases h
    exact k4J
  · rw [if_neg (show ¬ (v1 = 0) from c12)] at h
    refine go_aload_n (pc' := 10) dX11_areSeen_9 rfl rfl (Nat.le_of_ble_eq_true rfl) ?_
    refine go_iconst (pc' := 11) dX11_areSeen_10 rfl (r32_c rfl) ?_
    refine go_iload_n (pc' := 12) dX11_areSeen_11 rfl rfl ?_
    obtain ⟨v5, k6, h⟩ := bd h
    have k6 := l_M_seen (d + 0) n e σ 1 x2 _ k6
    refine go_call (kc := 186) (Mc := mt186) (v := some (pvI v5)) (w' := (true, n, e, σ)) (pc' := 15) (st' := [pvI v5]) [pvR 11 0 129, pvI 1, pvI x2] [] (Or.inl rfl) dX11_areSeen_12 rfl rm_11_208 mtE186 rfl rfl rfl (Nat.le_of_ble_eq_true rfl) (Or.inr ⟨_, _, 129, rfl, Or.inl rfl⟩) k6 rfl ?_
    refine go_if_eq (t := 31) (pc' := 18) dX11_areSeen_15 rfl rfl (fun c10 => ?_) (fun c10 => ?_)
    · rw [if_pos (show v5 = 0 from c10)] at h
      refine go_iconst (pc' := 32) dX11_areSeen_31 rfl (r32_c rfl) ?_
      cases h
      exact k4J
    · rw [if_neg (show ¬ (v5 = 0) from c10)] at h
      refine go_aload_n (pc' := 19) dX11_areSeen_18 rfl rfl (Nat.le_of_ble_eq_true rfl) ?_
      refine go_iconst (pc' := 20) dX11_areSeen_19 rfl (r32_c rfl) ?_
      refine go_iload_n (pc' := 21) dX11_areSeen_20 rfl rfl ?_
      obtain ⟨v7, k8, h⟩ := bd h
      have k8 := l_M_seen (d + 0) n e σ 2 x3 _ k8
      refine go_call (kc := 186) (Mc := mt186) (v := some (pvI v7)) (w' := (true, n, e, σ)) (pc' := 24) (st' := [pvI v7]) [pvR 11 0 129, pvI 2, pvI x3] [] (Or.inl rfl) dX11_areSeen_21 rfl rm_11_208 mtE186 rfl rfl rfl (Nat.le_of_ble_eq_true rfl) (Or.inr ⟨_, _, 129, rfl, Or.inl rfl⟩) k8 rfl ?_
      refine go_if_eq (t := 31) (pc' := 27) dX11_areSeen_24 rfl rfl (fun c9 => ?_) (fun c9 => ?_)
      · rw [if_pos (show v7 = 0 from c9)] at h
        refine go_iconst (pc' := 32) dX11_areSeen_31 rfl (r32_c rfl) ?_
        cases h
        exact k4J
      · rw [if_neg (show ¬ (v7 = 0) from c9)] at h
        refine go_iconst (pc' := 28) dX11_areSeen_27 rfl (r32_c rfl) ?_
        refine go_goto (t := 32) dX11_areSeen_28 rfl ?_
        cases h
        exact k4J

set_option maxRecDepth 10000 in
theorem l_M_back_20 (d : Nat) (n : Nat) (e : Nat) (σ : Hp) (x1 : Int) (x2 : Int) (y1 : Int) (y2 : Int) {out : Out} : ∀ (F : Nat) (y3 : Int) (y4 : Int) (j28 : Int × Int), f_M_back_20 σ x1 y2 F y3 y4 = some j28 → Go none (Ev (d + 3)) mt212 123 [some (pvR 11 0 129), some (pvI x1), some (pvI x2), some (pvI y1), some (pvI y2), some (pvI j28.1), some (pvI j28.2), none] [] (true, n, e, σ) out → Go none (Ev (d + 3)) mt212 20 [some (pvR 11 0 129), some (pvI x1), some (pvI x2), some (pvI y1), some (pvI y2), some (pvI y3), some (pvI y4), none] [] (true, n, e, σ) out := by
  intro F
  induction F with
  | zero =>
    intro _ _ _ h
    intro _
    rw [f_M_back_20] at h
    cases h
  | succ F ih =>
    intro y3 y4 j28 h hx
    rw [f_M_back_20] at h
    refine go_iload (pc' := 22) dX11_back_20 rfl rfl ?_
    refine go_aload_n (pc' := 23) dX11_back_22 rfl rfl (Nat.le_of_ble_eq_true rfl) ?_
    refine go_getR (k' := 12) (L0 := 3) (P' := 130) (pc' := 26) dX11_back_23 rfl rf_11_9 rfl rfl (by omega) ?_
    refine go_iconst (pc' := 27) dX11_back_26 rfl (r32_c rfl) ?_
    obtain ⟨g5, h⟩ := gd h
    refine go_iald (pc' := 28) dX11_back_27 rfl g5 ?_
    refine go_icmp_ge (t := 123) (pc' := 31) dX11_back_28 rfl rfl (fun c27 => ?_) (fun c27 => ?_)
    · rw [if_pos (show (σ 130 0) ≤ y4 from c27)] at h
      cases h
      exact hx
    · rw [if_neg (show ¬ ((σ 130 0) ≤ y4) from c27)] at h
      refine go_aload_n (pc' := 32) dX11_back_31 rfl rfl (Nat.le_of_ble_eq_true rfl) ?_
      refine go_iconst (pc' := 33) dX11_back_32 rfl (r32_c rfl) ?_
      refine go_iload (pc' := 35) dX11_back_33 rfl rfl ?_
      obtain ⟨v6, k7, h⟩ := bd h
      have k7 := l_M_isPlain (d + 2) n e σ 0 y4 _ k7
      refine go_call (kc := 173) (Mc := mt173) (v := some (pvI v6)) (w' := (true, n, e, σ)) (pc' := 38) (st' := [pvI v6]) [pvR 11 0 129, pvI 0, pvI y4] [] (Or.inl rfl) dX11_back_35 rfl rm_11_180 mtE173 rfl rfl rfl (Nat.le_of_ble_eq_true rfl) (Or.inr ⟨_, _, 129, rfl, Or.inl rfl⟩) k7 rfl ?_
      obtain ⟨j8, k9, h⟩ := bd h
      have k9J : Go none (Ev (d + 3)) mt212 101 [some (pvR 11 0 129), some (pvI x1), some (pvI x2), some (pvI y1), some (pvI y2), some (pvI y3), some (pvI y4), none] [pvI j8] (true, n, e, σ) out := by
        refine go_istore (L' := [some (pvR 11 0 129), some (pvI x1), some (pvI x2), some (pvI y1), some (pvI y2), some (pvI y3), some (pvI y4), some (pvI j8)]) (pc' := 103) dX11_back_101 rfl (Nat.le_of_ble_eq_true rfl) rfl ?_
        refine go_iload (pc' := 105) dX11_back_103 rfl rfl ?_
        obtain ⟨j22, k23, h⟩ := bd h
        have k23J : Go none (Ev (d + 3)) mt212 115 [some (pvR 11 0 129), some (pvI x1), some (pvI x2), some (pvI y1), some (pvI y2), some (pvI y3), some (pvI y4), some (pvI j8)] [pvI j22] (true, n, e, σ) out := by
          refine go_istore (L' := [some (pvR 11 0 129), some (pvI x1), some (pvI x2), some (pvI y1), some (pvI y2), some (pvI j22), some (pvI y4), some (pvI j8)]) (pc' := 117) dX11_back_115 rfl (Nat.le_of_ble_eq_true rfl) rfl ?_
          obtain ⟨g24, h⟩ := gd h
          refine go_iinc (L' := [some (pvR 11 0 129), some (pvI x1), some (pvI x2), some (pvI y1), some (pvI y2), some (pvI j22), some (pvI (y4 + 1)), some (pvI j8)]) (pc' := 120) dX11_back_117 rfl rfl g24 rfl ?_
          refine go_goto (t := 20) dX11_back_120 rfl ?_
          exact go_sub (ih j22 (y4 + 1) _ h hx) ⟨Or.inr rfl, Or.inr rfl, Or.inr rfl, Or.inr rfl, Or.inr rfl, Or.inr rfl, Or.inr rfl, Or.inl rfl, trivial⟩
        clear h
        have h := k23
        refine go_if_eq (t := 113) (pc' := 108) dX11_back_105 rfl rfl (fun c25 => ?_) (fun c25 => ?_)
        · rw [if_pos (show j8 = 0 from c25)] at h
          refine go_iload (pc' := 115) dX11_back_113 rfl rfl ?_
          cases h
          exact k23J
        · rw [if_neg (show ¬ (j8 = 0) from c25)] at h
          refine go_iload (pc' := 110) dX11_back_108 rfl rfl ?_
          refine go_goto (t := 115) dX11_back_110 rfl ?_
          cases h
          exact k23J
      clear h
      have h := k9
      refine go_if_eq (t := 100) (pc' := 41) dX11_back_38 rfl rfl (fun c26 => ?_) (fun c26 => ?_)
      · rw [if_pos (show v6 = 0 from c26)] at h
        refine go_iconst (pc' := 101) dX11_back_100 rfl (r32_c rfl) ?_
        cases h
        exact k9J
      · rw [if_neg (show ¬ (v6 = 0) from c26)] at h
        refine go_aload_n (pc' := 42) dX11_back_41 rfl rfl (Nat.le_of_ble_eq_true rfl) ?_
        refine go_iconst (pc' := 43) dX11_back_42 rfl (r32_c rfl) ?_
        refine go_iload (pc' := 45) dX11_back_43 rfl rfl ?_
        obtain ⟨v10, k11, h⟩ := bd h
        have k11 := l_M_depth (d + 0) n e σ 0 y4 _ k11
        refine go_call (kc := 185) (Mc := mt185) (v := some (pvI v10)) (w' := (true, n, e, σ)) (pc' := 48) (st' := [pvI v10]) [pvR 11 0 129, pvI 0, pvI y4] [] (Or.inl rfl) dX11_back_45 rfl rm_11_205 mtE185 rfl rfl rfl (Nat.le_of_ble_eq_true rfl) (Or.inr ⟨_, _, 129, rfl, Or.inl rfl⟩) k11 rfl ?_
        refine go_aload_n (pc' := 49) dX11_back_48 rfl rfl (Nat.le_of_ble_eq_true rfl) ?_
        refine go_iconst (pc' := 50) dX11_back_49 rfl (r32_c rfl) ?_
        refine go_iload_n (pc' := 51) dX11_back_50 rfl rfl ?_
        obtain ⟨v12, k13, h⟩ := bd h
        have k13 := l_M_depth (d + 0) n e σ 0 x1 _ k13
        refine go_call (kc := 185) (Mc := mt185) (v := some (pvI v12)) (w' := (true, n, e, σ)) (pc' := 54) (st' := [pvI v12, pvI v10]) [pvR 11 0 129, pvI 0, pvI x1] [pvI v10] (Or.inl rfl) dX11_back_51 rfl rm_11_205 mtE185 rfl rfl rfl (Nat.le_of_ble_eq_true rfl) (Or.inr ⟨_, _, 129, rfl, Or.inl rfl⟩) k13 rfl ?_
        refine go_icmp_ne (t := 100) (pc' := 57) dX11_back_54 rfl rfl (fun c21 => ?_) (fun c21 => ?_)
        · rw [if_pos (show v10 ≠ v12 from c21)] at h
          refine go_iconst (pc' := 101) dX11_back_100 rfl (r32_c rfl) ?_
          cases h
          exact k9J
        · rw [if_neg (show ¬ (v10 ≠ v12) from c21)] at h
          refine go_aload_n (pc' := 58) dX11_back_57 rfl rfl (Nat.le_of_ble_eq_true rfl) ?_
          refine go_getR (k' := 12) (L0 := 12) (P' := 145) (pc' := 61) dX11_back_58 rfl rf_11_57 rfl rfl (by omega) ?_
          refine go_iload (pc' := 63) dX11_back_61 rfl rfl ?_
          obtain ⟨g14, h⟩ := gd h
          refine go_iald (pc' := 64) dX11_back_63 rfl g14 ?_
          refine go_aload_n (pc' := 65) dX11_back_64 rfl rfl (Nat.le_of_ble_eq_true rfl) ?_
          refine go_getR (k' := 12) (L0 := 12) (P' := 145) (pc' := 68) dX11_back_65 rfl rf_11_57 rfl rfl (by omega) ?_
          refine go_iload (pc' := 70) dX11_back_68 rfl rfl ?_
          obtain ⟨g15, h⟩ := gd h
          refine go_iald (pc' := 71) dX11_back_70 rfl g15 ?_
          refine go_icmp_ge (t := 100) (pc' := 74) dX11_back_71 rfl rfl (fun c20 => ?_) (fun c20 => ?_)
          · rw [if_pos (show (σ 145 y2) ≤ (σ 145 y4) from c20)] at h
            refine go_iconst (pc' := 101) dX11_back_100 rfl (r32_c rfl) ?_
            cases h
            exact k9J
          · rw [if_neg (show ¬ ((σ 145 y2) ≤ (σ 145 y4)) from c20)] at h
            refine go_iload (pc' := 76) dX11_back_74 rfl rfl ?_
            refine go_if_lt (t := 96) (pc' := 79) dX11_back_76 rfl rfl (fun c19 => ?_) (fun c19 => ?_)
            · rw [if_pos (show y3 < 0 from c19)] at h
              refine go_iconst (pc' := 97) dX11_back_96 rfl (r32_c rfl) ?_
              refine go_goto (t := 101) dX11_back_97 rfl ?_
              cases h
              exact k9J
            · rw [if_neg (show ¬ (y3 < 0) from c19)] at h
              refine go_aload_n (pc' := 80) dX11_back_79 rfl rfl (Nat.le_of_ble_eq_true rfl) ?_
              refine go_getR (k' := 12) (L0 := 12) (P' := 145) (pc' := 83) dX11_back_80 rfl rf_11_57 rfl rfl (by omega) ?_
              refine go_iload (pc' := 85) dX11_back_83 rfl rfl ?_
              obtain ⟨g16, h⟩ := gd h
              refine go_iald (pc' := 86) dX11_back_85 rfl g16 ?_
              refine go_aload_n (pc' := 87) dX11_back_86 rfl rfl (Nat.le_of_ble_eq_true rfl) ?_
              refine go_getR (k' := 12) (L0 := 12) (P' := 145) (pc' := 90) dX11_back_87 rfl rf_11_57 rfl rfl (by omega) ?_
              refine go_iload (pc' := 92) dX11_back_90 rfl rfl ?_
              obtain ⟨g17, h⟩ := gd h
              refine go_iald (pc' := 93) dX11_back_92 rfl g17 ?_
              refine go_icmp_le (t := 100) (pc' := 96) dX11_back_93 rfl rfl (fun c18 => ?_) (fun c18 => ?_)
              · rw [if_pos (show (σ 145 y4) ≤ (σ 145 y3) from c18)] at h
                refine go_iconst (pc' := 101) dX11_back_100 rfl (r32_c rfl) ?_
                cases h
                exact k9J
              · rw [if_neg (show ¬ ((σ 145 y4) ≤ (σ 145 y3)) from c18)] at h
                refine go_iconst (pc' := 97) dX11_back_96 rfl (r32_c rfl) ?_
                refine go_goto (t := 101) dX11_back_97 rfl ?_
                cases h
                exact k9J

set_option maxRecDepth 10000 in
theorem l_M_back_5 (d : Nat) (n : Nat) (e : Nat) (σ : Hp) (x1 : Int) (x2 : Int) {out : Out} : ∀ (F : Nat) (y1 : Int) (y2 : Int) (j34 : Int × Int), f_M_back_5 σ x1 F y1 y2 = some j34 → Go none (Ev (d + 3)) mt212 133 [some (pvR 11 0 129), some (pvI x1), some (pvI x2), some (pvI j34.1), some (pvI j34.2), none, none, none] [] (true, n, e, σ) out → Go none (Ev (d + 3)) mt212 5 [some (pvR 11 0 129), some (pvI x1), some (pvI x2), some (pvI y1), some (pvI y2), none, none, none] [] (true, n, e, σ) out := by
  intro F
  induction F with
  | zero =>
    intro _ _ _ h
    intro _
    rw [f_M_back_5] at h
    cases h
  | succ F ih =>
    intro y1 y2 j34 h hx
    rw [f_M_back_5] at h
    refine go_iload_n (pc' := 6) dX11_back_5 rfl rfl ?_
    refine go_if_le (t := 133) (pc' := 9) dX11_back_6 rfl rfl (fun c33 => ?_) (fun c33 => ?_)
    · rw [if_pos (show y1 ≤ 0 from c33)] at h
      cases h
      exact hx
    · rw [if_neg (show ¬ (y1 ≤ 0) from c33)] at h
      refine go_iload (pc' := 11) dX11_back_9 rfl rfl ?_
      refine go_if_lt (t := 133) (pc' := 14) dX11_back_11 rfl rfl (fun c32 => ?_) (fun c32 => ?_)
      · rw [if_pos (show y2 < 0 from c32)] at h
        cases h
        exact hx
      · rw [if_neg (show ¬ (y2 < 0) from c32)] at h
        refine go_iconst (pc' := 15) dX11_back_14 rfl (r32_c rfl) ?_
        refine go_istore (L' := [some (pvR 11 0 129), some (pvI x1), some (pvI x2), some (pvI y1), some (pvI y2), some (pvI (-1)), none, none]) (pc' := 17) dX11_back_15 rfl (Nat.le_of_ble_eq_true rfl) rfl ?_
        refine go_iconst (pc' := 18) dX11_back_17 rfl (r32_c rfl) ?_
        refine go_istore (L' := [some (pvR 11 0 129), some (pvI x1), some (pvI x2), some (pvI y1), some (pvI y2), some (pvI (-1)), some (pvI 0), none]) (pc' := 20) dX11_back_18 rfl (Nat.le_of_ble_eq_true rfl) rfl ?_
        obtain ⟨j29, k30, h⟩ := bd h
        refine l_M_back_20 d n e σ x1 x2 y1 y2 zFuel (-1) 0 _ k30 ?_
        refine go_iload (pc' := 125) dX11_back_123 rfl rfl ?_
        refine go_istore (L' := [some (pvR 11 0 129), some (pvI x1), some (pvI x2), some (pvI y1), some (pvI j29.1), some (pvI j29.1), some (pvI j29.2), none]) (pc' := 127) dX11_back_125 rfl (Nat.le_of_ble_eq_true rfl) rfl ?_
        obtain ⟨g31, h⟩ := gd h
        refine go_iinc (L' := [some (pvR 11 0 129), some (pvI x1), some (pvI x2), some (pvI (y1 + (-1))), some (pvI j29.1), some (pvI j29.1), some (pvI j29.2), none]) (pc' := 130) dX11_back_127 rfl rfl g31 rfl ?_
        refine go_goto (t := 5) dX11_back_130 rfl ?_
        exact go_sub (ih (y1 + (-1)) j29.1 _ h hx) ⟨Or.inr rfl, Or.inr rfl, Or.inr rfl, Or.inr rfl, Or.inr rfl, Or.inl rfl, Or.inl rfl, Or.inr rfl, trivial⟩

set_option maxRecDepth 10000 in
theorem l_M_back (d : Nat) (n e : Nat) (σ : Hp) (x1 : Int) (x2 : Int) (r : Int) (h : f_M_back σ x1 x2 = some r) : Ev (d + 4) 212 [pvR 11 0 129, pvI x1, pvI x2] (true, n, e, σ) (0, some (pvI r), true, n, e, σ) := by
  unfold f_M_back at h
  refine Ev.of mtE212 rfl rfl rfl rfl ?_
  show Go none (Ev (d + 3)) mt212 0 [some (pvR 11 0 129), some (pvI x1), some (pvI x2), none, none, none, none, none] [] (true, n, e, σ) (0, some (pvI r), true, n, e, σ)
  refine go_iload_n (pc' := 1) dX11_back_0 rfl rfl ?_
  refine go_istore_n (L' := [some (pvR 11 0 129), some (pvI x1), some (pvI x2), some (pvI x2), none, none, none, none]) (pc' := 2) dX11_back_1 rfl (Nat.le_of_ble_eq_true rfl) rfl ?_
  refine go_iload_n (pc' := 3) dX11_back_2 rfl rfl ?_
  refine go_istore (L' := [some (pvR 11 0 129), some (pvI x1), some (pvI x2), some (pvI x2), some (pvI x1), none, none, none]) (pc' := 5) dX11_back_3 rfl (Nat.le_of_ble_eq_true rfl) rfl ?_
  obtain ⟨j35, k36, h⟩ := bd h
  refine l_M_back_5 d n e σ x1 x2 zFuel x2 x1 _ k36 ?_
  refine go_iload (pc' := 135) dX11_back_133 rfl rfl ?_
  cases h
  exact go_iret dX11_back_135 rfl rfl

set_option maxRecDepth 10000 in
theorem l_M_bound (d : Nat) (n e : Nat) (σ : Hp) (x1 : Int) (r : Int) (h : f_M_bound σ x1 = some r) : Ev (d + 1) 213 [pvR 11 0 129, pvL x1] (true, n, e, σ) (0, some (pvL r), true, n, e, σ) := by
  unfold f_M_bound at h
  refine Ev.of mtE213 rfl rfl rfl rfl ?_
  show Go none (Ev (d + 0)) mt213 0 [some (pvR 11 0 129), some (pvL x1), none] [] (true, n, e, σ) (0, some (pvL r), true, n, e, σ)
  refine go_lload_n (pc' := 1) dX11_bound_0 rfl rfl ?_
  refine go_ldc2 (pc' := 4) dX11_bound_1 rfl (r64_c rfl) rc_11_264 ?_
  refine go_lcmp (pc' := 5) dX11_bound_4 rfl ?_
  obtain ⟨j1, k2, h⟩ := bd h
  have k2J : Go none (Ev (d + 0)) mt213 29 [some (pvR 11 0 129), some (pvL x1), none] [pvL j1] (true, n, e, σ) (0, some (pvL r), true, n, e, σ) := by
    cases h
    exact go_lret dX11_bound_29 rfl rfl
  clear h
  have h := k2
  refine go_if_le (t := 14) (pc' := 8) dX11_bound_5 rfl rfl (fun c4 => ?_) (fun c4 => ?_)
  · rw [if_pos (show (lcm x1 1000000000000) ≤ 0 from c4)] at h
    refine go_lload_n (pc' := 15) dX11_bound_14 rfl rfl ?_
    refine go_ldc2 (pc' := 18) dX11_bound_15 rfl (r64_c rfl) rc_11_266 ?_
    refine go_lcmp (pc' := 19) dX11_bound_18 rfl ?_
    refine go_if_ge (t := 28) (pc' := 22) dX11_bound_19 rfl rfl (fun c3 => ?_) (fun c3 => ?_)
    · rw [if_pos (show 0 ≤ (lcm x1 (-1000000000000)) from c3)] at h
      refine go_lload_n (pc' := 29) dX11_bound_28 rfl rfl ?_
      cases h
      exact k2J
    · rw [if_neg (show ¬ (0 ≤ (lcm x1 (-1000000000000))) from c3)] at h
      refine go_ldc2 (pc' := 25) dX11_bound_22 rfl (r64_c rfl) rc_11_266 ?_
      refine go_goto (t := 29) dX11_bound_25 rfl ?_
      cases h
      exact k2J
  · rw [if_neg (show ¬ ((lcm x1 1000000000000) ≤ 0) from c4)] at h
    refine go_ldc2 (pc' := 11) dX11_bound_8 rfl (r64_c rfl) rc_11_264 ?_
    refine go_goto (t := 29) dX11_bound_11 rfl ?_
    cases h
    exact k2J

