/-! ===== links: each function is what its bytecode does ===== -/
set_option maxRecDepth 10000 in
theorem l_M_value_60 (F0 : Nat) (d : Nat) (n : Nat) (e : Nat) (F : Nat) (σ : Hp) (x1 : Int) (x2 : Int) (x3 : Int) (x4 : Int) (x5 : Int) (j1 : Int) {out : Out} : ∀ (F : Nat) (y11 : Int) (y12 : Int) (j37 : Int × Int), f_M_value_60 F σ x1 x2 x3 F y11 y12 = some j37 → Go none (Ev (d + F0 * 7 + 6)) mt209 168 [some (pvR 11 0 129), some (pvI x1), some (pvI x2), some (pvI x3), some (pvI x4), some (pvI x5), some (pvI ((((j1 + (576 * x1)) + (48 * x2)) + (4 * x3)) + x4)), some (pvI j37.1), some (pvI j37.2), none, none, none, none, none] [] (true, n, e, σ) out → Go none (Ev (d + F0 * 7 + 6)) mt209 60 [some (pvR 11 0 129), some (pvI x1), some (pvI x2), some (pvI x3), some (pvI x4), some (pvI x5), some (pvI ((((j1 + (576 * x1)) + (48 * x2)) + (4 * x3)) + x4)), some (pvI y11), some (pvI y12), none, none, none, none, none] [] (true, n, e, σ) out := by
  intro F
  induction F with
  | zero =>
    intro _ _ _ h
    intro _
    rw [f_M_value_60] at h
    cases h
  | succ F ih =>
    intro y11 y12 j37 h hx
    rw [f_M_value_60] at h
    refine go_iload (pc' := 62) dX11_value_60 rfl rfl ?_
    refine go_iconst (pc' := 63) dX11_value_62 rfl (r32_c rfl) ?_
    refine go_icmp_ge (t := 168) (pc' := 66) dX11_value_63 rfl rfl (fun c36 => ?_) (fun c36 => ?_)
    · rw [if_pos (show 3 ≤ y12 from c36)] at h
      cases h
      exact hx
    · rw [if_neg (show ¬ (3 ≤ y12) from c36)] at h
      refine go_bipush (pc' := 68) dX11_value_66 rfl (r32_c rfl) (by decide) ?_
      refine go_iload (pc' := 70) dX11_value_68 rfl rfl ?_
      obtain ⟨g13, h⟩ := gd h
      refine go_imul (pc' := 71) dX11_value_70 rfl g13 ?_
      refine go_iload (pc' := 73) dX11_value_71 rfl rfl ?_
      obtain ⟨j14, k15, h⟩ := bd h
      have k15J : Go none (Ev (d + F0 * 7 + 6)) mt209 91 [some (pvR 11 0 129), some (pvI x1), some (pvI x2), some (pvI x3), some (pvI x4), some (pvI x5), some (pvI ((((j1 + (576 * x1)) + (48 * x2)) + (4 * x3)) + x4)), some (pvI y11), some (pvI y12), none, none, none, none, none] [pvI j14, pvI (12 * y12)] (true, n, e, σ) out := by
        obtain ⟨g17, h⟩ := gd h
        refine go_iadd (pc' := 92) dX11_value_91 rfl g17 ?_
        refine go_istore (L' := [some (pvR 11 0 129), some (pvI x1), some (pvI x2), some (pvI x3), some (pvI x4), some (pvI x5), some (pvI ((((j1 + (576 * x1)) + (48 * x2)) + (4 * x3)) + x4)), some (pvI y11), some (pvI y12), some (pvI ((12 * y12) + j14)), none, none, none, none]) (pc' := 94) dX11_value_92 rfl (Nat.le_of_ble_eq_true rfl) rfl ?_
        refine go_aload_n (pc' := 95) dX11_value_94 rfl rfl (Nat.le_of_ble_eq_true rfl) ?_
        refine go_getR (k' := 12) (L0 := 36) (P' := 131) (pc' := 98) dX11_value_95 rfl rf_11_15 rfl rfl (by omega) ?_
        refine go_iload (pc' := 100) dX11_value_98 rfl rfl ?_
        obtain ⟨g18, h⟩ := gd h
        refine go_iald (pc' := 101) dX11_value_100 rfl g18 ?_
        refine go_iconst (pc' := 102) dX11_value_101 rfl (r32_c rfl) ?_
        obtain ⟨j19, k20, h⟩ := bd h
        have k20J : Go none (Ev (d + F0 * 7 + 6)) mt209 146 [some (pvR 11 0 129), some (pvI x1), some (pvI x2), some (pvI x3), some (pvI x4), some (pvI x5), some (pvI ((((j1 + (576 * x1)) + (48 * x2)) + (4 * x3)) + x4)), some (pvI y11), some (pvI y12), some (pvI ((12 * y12) + j14)), none, none, none, none] [pvI j19] (true, n, e, σ) out := by
          refine go_istore (L' := [some (pvR 11 0 129), some (pvI x1), some (pvI x2), some (pvI x3), some (pvI x4), some (pvI x5), some (pvI ((((j1 + (576 * x1)) + (48 * x2)) + (4 * x3)) + x4)), some (pvI y11), some (pvI y12), some (pvI ((12 * y12) + j14)), some (pvI j19), none, none, none]) (pc' := 148) dX11_value_146 rfl (Nat.le_of_ble_eq_true rfl) rfl ?_
          refine go_iload (pc' := 150) dX11_value_148 rfl rfl ?_
          obtain ⟨j30, k31, h⟩ := bd h
          have k31J : Go none (Ev (d + F0 * 7 + 6)) mt209 160 [some (pvR 11 0 129), some (pvI x1), some (pvI x2), some (pvI x3), some (pvI x4), some (pvI x5), some (pvI ((((j1 + (576 * x1)) + (48 * x2)) + (4 * x3)) + x4)), some (pvI y11), some (pvI y12), some (pvI ((12 * y12) + j14)), some (pvI j19), none, none, none] [pvI j30] (true, n, e, σ) out := by
            refine go_istore (L' := [some (pvR 11 0 129), some (pvI x1), some (pvI x2), some (pvI x3), some (pvI x4), some (pvI x5), some (pvI ((((j1 + (576 * x1)) + (48 * x2)) + (4 * x3)) + x4)), some (pvI j30), some (pvI y12), some (pvI ((12 * y12) + j14)), some (pvI j19), none, none, none]) (pc' := 162) dX11_value_160 rfl (Nat.le_of_ble_eq_true rfl) rfl ?_
            obtain ⟨g32, h⟩ := gd h
            refine go_iinc (L' := [some (pvR 11 0 129), some (pvI x1), some (pvI x2), some (pvI x3), some (pvI x4), some (pvI x5), some (pvI ((((j1 + (576 * x1)) + (48 * x2)) + (4 * x3)) + x4)), some (pvI j30), some (pvI (y12 + 1)), some (pvI ((12 * y12) + j14)), some (pvI j19), none, none, none]) (pc' := 165) dX11_value_162 rfl rfl g32 rfl ?_
            refine go_goto (t := 60) dX11_value_165 rfl ?_
            exact go_sub (ih j30 (y12 + 1) _ h hx) ⟨Or.inr rfl, Or.inr rfl, Or.inr rfl, Or.inr rfl, Or.inr rfl, Or.inr rfl, Or.inr rfl, Or.inr rfl, Or.inr rfl, Or.inl rfl, Or.inl rfl, Or.inr rfl, Or.inr rfl, Or.inr rfl, trivial⟩
          clear h
          have h := k31
          refine go_if_eq (t := 158) (pc' := 153) dX11_value_150 rfl rfl (fun c33 => ?_) (fun c33 => ?_)
          · rw [if_pos (show j19 = 0 from c33)] at h
            refine go_iload (pc' := 160) dX11_value_158 rfl rfl ?_
            cases h
            exact k31J
          · rw [if_neg (show ¬ (j19 = 0) from c33)] at h
            refine go_iload (pc' := 155) dX11_value_153 rfl rfl ?_
            refine go_goto (t := 160) dX11_value_155 rfl ?_
            cases h
            exact k31J
        clear h
        have h := k20
        refine go_icmp_ne (t := 145) (pc' := 105) dX11_value_102 rfl rfl (fun c34 => ?_) (fun c34 => ?_)
        · rw [if_pos (show (σ 131 ((12 * y12) + j14)) ≠ 2 from c34)] at h
          refine go_iconst (pc' := 146) dX11_value_145 rfl (r32_c rfl) ?_
          cases h
          exact k20J
        · rw [if_neg (show ¬ ((σ 131 ((12 * y12) + j14)) ≠ 2) from c34)] at h
          refine go_iload (pc' := 107) dX11_value_105 rfl rfl ?_
          refine go_if_lt (t := 141) (pc' := 110) dX11_value_107 rfl rfl (fun c29 => ?_) (fun c29 => ?_)
          · rw [if_pos (show y11 < 0 from c29)] at h
            refine go_iconst (pc' := 142) dX11_value_141 rfl (r32_c rfl) ?_
            refine go_goto (t := 146) dX11_value_142 rfl ?_
            cases h
            exact k20J
          · rw [if_neg (show ¬ (y11 < 0) from c29)] at h
            refine go_aload_n (pc' := 111) dX11_value_110 rfl rfl (Nat.le_of_ble_eq_true rfl) ?_
            refine go_getR (k' := 12) (L0 := 36) (P' := 135) (pc' := 114) dX11_value_111 rfl rf_11_27 rfl rfl (by omega) ?_
            refine go_iload (pc' := 116) dX11_value_114 rfl rfl ?_
            obtain ⟨g21, h⟩ := gd h
            refine go_iald (pc' := 117) dX11_value_116 rfl g21 ?_
            refine go_aload_n (pc' := 118) dX11_value_117 rfl rfl (Nat.le_of_ble_eq_true rfl) ?_
            refine go_getR (k' := 12) (L0 := 36) (P' := 135) (pc' := 121) dX11_value_118 rfl rf_11_27 rfl rfl (by omega) ?_
            refine go_bipush (pc' := 123) dX11_value_121 rfl (r32_c rfl) (by decide) ?_
            refine go_iload (pc' := 125) dX11_value_123 rfl rfl ?_
            obtain ⟨g22, h⟩ := gd h
            refine go_imul (pc' := 126) dX11_value_125 rfl g22 ?_
            refine go_iload (pc' := 128) dX11_value_126 rfl rfl ?_
            obtain ⟨j23, k24, h⟩ := bd h
            have k24J : Go none (Ev (d + F0 * 7 + 6)) mt209 136 [some (pvR 11 0 129), some (pvI x1), some (pvI x2), some (pvI x3), some (pvI x4), some (pvI x5), some (pvI ((((j1 + (576 * x1)) + (48 * x2)) + (4 * x3)) + x4)), some (pvI y11), some (pvI y12), some (pvI ((12 * y12) + j14)), none, none, none, none] [pvI j23, pvI (12 * y11), pvR 12 36 135, pvI (σ 135 ((12 * y12) + j14))] (true, n, e, σ) out := by
              obtain ⟨g25, h⟩ := gd h
              refine go_iadd (pc' := 137) dX11_value_136 rfl g25 ?_
              obtain ⟨g26, h⟩ := gd h
              refine go_iald (pc' := 138) dX11_value_137 rfl g26 ?_
              refine go_icmp_lt (t := 145) (pc' := 141) dX11_value_138 rfl rfl (fun c27 => ?_) (fun c27 => ?_)
              · rw [if_pos (show (σ 135 ((12 * y12) + j14)) < (σ 135 ((12 * y11) + j23)) from c27)] at h
                refine go_iconst (pc' := 146) dX11_value_145 rfl (r32_c rfl) ?_
                cases h
                exact k20J
              · rw [if_neg (show ¬ ((σ 135 ((12 * y12) + j14)) < (σ 135 ((12 * y11) + j23))) from c27)] at h
                refine go_iconst (pc' := 142) dX11_value_141 rfl (r32_c rfl) ?_
                refine go_goto (t := 146) dX11_value_142 rfl ?_
                cases h
                exact k20J
            clear h
            have h := k24
            refine go_if_ne (t := 135) (pc' := 131) dX11_value_128 rfl rfl (fun c28 => ?_) (fun c28 => ?_)
            · rw [if_pos (show y11 ≠ 0 from c28)] at h
              refine go_iload_n (pc' := 136) dX11_value_135 rfl rfl ?_
              cases h
              exact k24J
            · rw [if_neg (show ¬ (y11 ≠ 0) from c28)] at h
              refine go_iload_n (pc' := 132) dX11_value_131 rfl rfl ?_
              refine go_goto (t := 136) dX11_value_132 rfl ?_
              cases h
              exact k24J
      clear h
      have h := k15
      refine go_if_ne (t := 80) (pc' := 76) dX11_value_73 rfl rfl (fun c35 => ?_) (fun c35 => ?_)
      · rw [if_pos (show y12 ≠ 0 from c35)] at h
        refine go_iload (pc' := 82) dX11_value_80 rfl rfl ?_
        refine go_iconst (pc' := 83) dX11_value_82 rfl (r32_c rfl) ?_
        refine go_icmp_ne (t := 90) (pc' := 86) dX11_value_83 rfl rfl (fun c16 => ?_) (fun c16 => ?_)
        · rw [if_pos (show y12 ≠ 1 from c16)] at h
          refine go_iload_n (pc' := 91) dX11_value_90 rfl rfl ?_
          cases h
          exact k15J
        · rw [if_neg (show ¬ (y12 ≠ 1) from c16)] at h
          refine go_iload_n (pc' := 87) dX11_value_86 rfl rfl ?_
          refine go_goto (t := 91) dX11_value_87 rfl ?_
          cases h
          exact k15J
      · rw [if_neg (show ¬ (y12 ≠ 0) from c35)] at h
        refine go_iload_n (pc' := 77) dX11_value_76 rfl rfl ?_
        refine go_goto (t := 91) dX11_value_77 rfl ?_
        cases h
        exact k15J

set_option maxRecDepth 10000 in
theorem l_M_value : ∀ (F : Nat) (d n e : Nat) (σ : Hp) (x1 : Int) (x2 : Int) (x3 : Int) (x4 : Int) (x5 : Int) (r : Int × Hp), f_M_value F σ x1 x2 x3 x4 x5 = some r → Ev (d + F * 7) 209 [pvR 11 0 129, pvI x1, pvI x2, pvI x3, pvI x4, pvI x5] (true, n, e, σ) (0, some (pvL r.1), true, n, e, r.2) := by
  intro F
  induction F with
  | zero =>
    intro _ _ _ _ _ _ _ _ _ _ h
    rw [f_M_value] at h
    cases h
  | succ F ih =>
    intro d n e σ x1 x2 x3 x4 x5 r h
    rw [f_M_value] at h
    rw [show d + (F + 1) * 7 = d + F * 7 + 6 + 1 by omega]
    refine Ev.of mtE209 rfl rfl rfl rfl ?_
    show Go none (Ev (d + F * 7 + 6)) mt209 0 [some (pvR 11 0 129), some (pvI x1), some (pvI x2), some (pvI x3), some (pvI x4), some (pvI x5), none, none, none, none, none, none, none, none] [] (true, n, e, σ) (0, some (pvL r.1), true, n, e, r.2)
    refine go_iload (pc' := 2) dX11_value_0 rfl rfl ?_
    obtain ⟨j1, k2, h⟩ := bd h
    have k2J : Go none (Ev (d + F * 7 + 6)) mt209 12 [some (pvR 11 0 129), some (pvI x1), some (pvI x2), some (pvI x3), some (pvI x4), some (pvI x5), none, none, none, none, none, none, none, none] [pvI j1] (true, n, e, σ) (0, some (pvL r.1), true, n, e, r.2) := by
      refine go_sipush (pc' := 15) dX11_value_12 rfl (r32_c rfl) (by decide) ?_
      refine go_iload_n (pc' := 16) dX11_value_15 rfl rfl ?_
      obtain ⟨g3, h⟩ := gd h
      refine go_imul (pc' := 17) dX11_value_16 rfl g3 ?_
      obtain ⟨g4, h⟩ := gd h
      refine go_iadd (pc' := 18) dX11_value_17 rfl g4 ?_
      refine go_bipush (pc' := 20) dX11_value_18 rfl (r32_c rfl) (by decide) ?_
      refine go_iload_n (pc' := 21) dX11_value_20 rfl rfl ?_
      obtain ⟨g5, h⟩ := gd h
      refine go_imul (pc' := 22) dX11_value_21 rfl g5 ?_
      obtain ⟨g6, h⟩ := gd h
      refine go_iadd (pc' := 23) dX11_value_22 rfl g6 ?_
      refine go_iconst (pc' := 24) dX11_value_23 rfl (r32_c rfl) ?_
      refine go_iload_n (pc' := 25) dX11_value_24 rfl rfl ?_
      obtain ⟨g7, h⟩ := gd h
      refine go_imul (pc' := 26) dX11_value_25 rfl g7 ?_
      obtain ⟨g8, h⟩ := gd h
      refine go_iadd (pc' := 27) dX11_value_26 rfl g8 ?_
      refine go_iload (pc' := 29) dX11_value_27 rfl rfl ?_
      obtain ⟨g9, h⟩ := gd h
      refine go_iadd (pc' := 30) dX11_value_29 rfl g9 ?_
      refine go_istore (L' := [some (pvR 11 0 129), some (pvI x1), some (pvI x2), some (pvI x3), some (pvI x4), some (pvI x5), some (pvI ((((j1 + (576 * x1)) + (48 * x2)) + (4 * x3)) + x4)), none, none, none, none, none, none, none]) (pc' := 32) dX11_value_30 rfl (Nat.le_of_ble_eq_true rfl) rfl ?_
      refine go_aload_n (pc' := 33) dX11_value_32 rfl rfl (Nat.le_of_ble_eq_true rfl) ?_
      refine go_getR (k' := 12) (L0 := 13824) (P' := 161) (pc' := 36) dX11_value_33 rfl rf_11_110 rfl rfl (by omega) ?_
      refine go_iload (pc' := 38) dX11_value_36 rfl rfl ?_
      obtain ⟨g10, h⟩ := gd h
      refine go_iald (pc' := 39) dX11_value_38 rfl g10 ?_
      refine go_aload_n (pc' := 40) dX11_value_39 rfl rfl (Nat.le_of_ble_eq_true rfl) ?_
      refine go_getI (pc' := 43) dX11_value_40 rfl rf_11_113 rfl ?_
      refine go_icmp_ne (t := 54) (pc' := 46) dX11_value_43 rfl rfl (fun c90 => ?_) (fun c90 => ?_)
      · rw [if_pos (show (σ 161 ((((j1 + (576 * x1)) + (48 * x2)) + (4 * x3)) + x4)) ≠ (σ 129 38) from c90)] at h
        refine go_iconst (pc' := 55) dX11_value_54 rfl (r32_c rfl) ?_
        refine go_istore (L' := [some (pvR 11 0 129), some (pvI x1), some (pvI x2), some (pvI x3), some (pvI x4), some (pvI x5), some (pvI ((((j1 + (576 * x1)) + (48 * x2)) + (4 * x3)) + x4)), some (pvI (-1)), none, none, none, none, none, none]) (pc' := 57) dX11_value_55 rfl (Nat.le_of_ble_eq_true rfl) rfl ?_
        refine go_iconst (pc' := 58) dX11_value_57 rfl (r32_c rfl) ?_
        refine go_istore (L' := [some (pvR 11 0 129), some (pvI x1), some (pvI x2), some (pvI x3), some (pvI x4), some (pvI x5), some (pvI ((((j1 + (576 * x1)) + (48 * x2)) + (4 * x3)) + x4)), some (pvI (-1)), some (pvI 0), none, none, none, none, none]) (pc' := 60) dX11_value_58 rfl (Nat.le_of_ble_eq_true rfl) rfl ?_
        obtain ⟨j38, k39, h⟩ := bd h
        refine l_M_value_60 F d n e F σ x1 x2 x3 x4 x5 j1 zFuel (-1) 0 _ k39 ?_
        refine go_iload (pc' := 170) dX11_value_168 rfl rfl ?_
        obtain ⟨j40, k41, h⟩ := bd h
        have k41J : Go none (Ev (d + F * 7 + 6)) mt209 321 [some (pvR 11 0 129), some (pvI x1), some (pvI x2), some (pvI x3), some (pvI x4), some (pvI x5), some (pvI ((((j1 + (576 * x1)) + (48 * x2)) + (4 * x3)) + x4)), some (pvI j38.1), some (pvL j40.1), none, none, none, none, none] [] (true, n, e, j40.2) (0, some (pvL r.1), true, n, e, r.2) := by
          refine go_aload_n (pc' := 322) dX11_value_321 rfl rfl (Nat.le_of_ble_eq_true rfl) ?_
          refine go_getR (k' := 12) (L0 := 13824) (P' := 161) (pc' := 325) dX11_value_322 rfl rf_11_110 rfl rfl (by omega) ?_
          refine go_iload (pc' := 327) dX11_value_325 rfl rfl ?_
          refine go_aload_n (pc' := 328) dX11_value_327 rfl rfl (Nat.le_of_ble_eq_true rfl) ?_
          refine go_getI (pc' := 331) dX11_value_328 rfl rf_11_113 rfl ?_
          obtain ⟨g86, h⟩ := gd h
          refine go_iast (pc' := 332) dX11_value_331 rfl g86 ?_
          refine go_aload_n (pc' := 333) dX11_value_332 rfl rfl (Nat.le_of_ble_eq_true rfl) ?_
          refine go_getR (k' := 13) (L0 := 13824) (P' := 160) (pc' := 336) dX11_value_333 rfl rf_11_106 rfl rfl (by omega) ?_
          refine go_iload (pc' := 338) dX11_value_336 rfl rfl ?_
          refine go_lload (pc' := 340) dX11_value_338 rfl rfl ?_
          obtain ⟨g87, h⟩ := gd h
          refine go_last (pc' := 341) dX11_value_340 rfl g87 ?_
          refine go_lload (pc' := 343) dX11_value_341 rfl rfl ?_
          cases h
          exact go_lret dX11_value_343 rfl rfl
        clear h
        have h := k41
        refine go_if_lt (t := 191) (pc' := 173) dX11_value_170 rfl rfl (fun c88 => ?_) (fun c88 => ?_)
        · rw [if_pos (show j38.1 < 0 from c88)] at h
          refine go_iload (pc' := 193) dX11_value_191 rfl rfl ?_
          refine go_if_ne (t := 216) (pc' := 196) dX11_value_193 rfl rfl (fun c83 => ?_) (fun c83 => ?_)
          · rw [if_pos (show x5 ≠ 0 from c83)] at h
            refine go_aload_n (pc' := 217) dX11_value_216 rfl rfl (Nat.le_of_ble_eq_true rfl) ?_
            refine go_getR (k' := 12) (L0 := 4) (P' := 146) (pc' := 220) dX11_value_217 rfl rf_11_60 rfl rfl (by omega) ?_
            refine go_iload (pc' := 222) dX11_value_220 rfl rfl ?_
            obtain ⟨g42, h⟩ := gd h
            refine go_iald (pc' := 223) dX11_value_222 rfl g42 ?_
            refine go_iconst (pc' := 224) dX11_value_223 rfl (r32_c rfl) ?_
            refine go_icmp_ne (t := 310) (pc' := 227) dX11_value_224 rfl rfl (fun c60 => ?_) (fun c60 => ?_)
            · rw [if_pos (show (σ 146 x4) ≠ 3 from c60)] at h
              refine go_aload_n (pc' := 311) dX11_value_310 rfl rfl (Nat.le_of_ble_eq_true rfl) ?_
              refine go_iload_n (pc' := 312) dX11_value_311 rfl rfl ?_
              refine go_iload_n (pc' := 313) dX11_value_312 rfl rfl ?_
              refine go_iload_n (pc' := 314) dX11_value_313 rfl rfl ?_
              refine go_iload (pc' := 316) dX11_value_314 rfl rfl ?_
              obtain ⟨v43, k44, h⟩ := bd h
              have k44 := l_M_plain (d + F * 7 + 1) n e σ x1 x2 x3 x4 _ k44
              refine go_call (kc := 218) (Mc := mt218) (v := some (pvL v43)) (w' := (true, n, e, σ)) (pc' := 319) (st' := [pvL v43]) [pvR 11 0 129, pvI x1, pvI x2, pvI x3, pvI x4] [] (Or.inl rfl) dX11_value_316 rfl rm_11_285 mtE218 rfl rfl rfl (Nat.le_of_ble_eq_true rfl) (Or.inr ⟨_, _, 129, rfl, Or.inl rfl⟩) k44 rfl ?_
              refine go_lstore (L' := [some (pvR 11 0 129), some (pvI x1), some (pvI x2), some (pvI x3), some (pvI x4), some (pvI x5), some (pvI ((((j1 + (576 * x1)) + (48 * x2)) + (4 * x3)) + x4)), some (pvI j38.1), some (pvL v43), none, none, none, none, none]) (pc' := 321) dX11_value_319 rfl (Nat.le_of_ble_eq_true rfl) rfl ?_
              cases h
              exact k41J
            · rw [if_neg (show ¬ ((σ 146 x4) ≠ 3) from c60)] at h
              refine go_aload_n (pc' := 228) dX11_value_227 rfl rfl (Nat.le_of_ble_eq_true rfl) ?_
              refine go_iload_n (pc' := 229) dX11_value_228 rfl rfl ?_
              refine go_iload_n (pc' := 230) dX11_value_229 rfl rfl ?_
              refine go_iload_n (pc' := 231) dX11_value_230 rfl rfl ?_
              refine go_aload_n (pc' := 232) dX11_value_231 rfl rfl (Nat.le_of_ble_eq_true rfl) ?_
              refine go_getR (k' := 12) (L0 := 4) (P' := 147) (pc' := 235) dX11_value_232 rfl rf_11_63 rfl rfl (by omega) ?_
              refine go_iload (pc' := 237) dX11_value_235 rfl rfl ?_
              obtain ⟨g45, h⟩ := gd h
              refine go_iald (pc' := 238) dX11_value_237 rfl g45 ?_
              refine go_iconst (pc' := 239) dX11_value_238 rfl (r32_c rfl) ?_
              obtain ⟨v46, k47, h⟩ := bd h
              have k47 := (by have z := ih (d + 6) n e σ x1 x2 x3 (σ 147 x4) 1 _ k47; rwa [show d + 6 + F * 7 = d + F * 7 + 6 by omega] at z)
              refine go_call (kc := 209) (Mc := mt209) (v := some (pvL v46.1)) (w' := (true, n, e, v46.2)) (pc' := 242) (st' := [pvL v46.1]) [pvR 11 0 129, pvI x1, pvI x2, pvI x3, pvI (σ 147 x4), pvI 1] [] (Or.inl rfl) dX11_value_239 rfl rm_11_275 mtE209 rfl rfl rfl (Nat.le_of_ble_eq_true rfl) (Or.inr ⟨_, _, 129, rfl, Or.inl rfl⟩) k47 rfl ?_
              refine go_lstore (L' := [some (pvR 11 0 129), some (pvI x1), some (pvI x2), some (pvI x3), some (pvI x4), some (pvI x5), some (pvI ((((j1 + (576 * x1)) + (48 * x2)) + (4 * x3)) + x4)), some (pvI j38.1), some (pvI j38.2), none, some (pvL v46.1), none, none, none]) (pc' := 244) dX11_value_242 rfl (Nat.le_of_ble_eq_true rfl) rfl ?_
              refine go_aload_n (pc' := 245) dX11_value_244 rfl rfl (Nat.le_of_ble_eq_true rfl) ?_
              refine go_iload_n (pc' := 246) dX11_value_245 rfl rfl ?_
              refine go_iload_n (pc' := 247) dX11_value_246 rfl rfl ?_
              refine go_iload_n (pc' := 248) dX11_value_247 rfl rfl ?_
              refine go_aload_n (pc' := 249) dX11_value_248 rfl rfl (Nat.le_of_ble_eq_true rfl) ?_
              refine go_getR (k' := 12) (L0 := 4) (P' := 148) (pc' := 252) dX11_value_249 rfl rf_11_66 rfl rfl (by omega) ?_
              refine go_iload (pc' := 254) dX11_value_252 rfl rfl ?_
              obtain ⟨g48, h⟩ := gd h
              refine go_iald (pc' := 255) dX11_value_254 rfl g48 ?_
              refine go_iconst (pc' := 256) dX11_value_255 rfl (r32_c rfl) ?_
              obtain ⟨v49, k50, h⟩ := bd h
              have k50 := (by have z := ih (d + 6) n e v46.2 x1 x2 x3 (v46.2 148 x4) 1 _ k50; rwa [show d + 6 + F * 7 = d + F * 7 + 6 by omega] at z)
              refine go_call (kc := 209) (Mc := mt209) (v := some (pvL v49.1)) (w' := (true, n, e, v49.2)) (pc' := 259) (st' := [pvL v49.1]) [pvR 11 0 129, pvI x1, pvI x2, pvI x3, pvI (v46.2 148 x4), pvI 1] [] (Or.inl rfl) dX11_value_256 rfl rm_11_275 mtE209 rfl rfl rfl (Nat.le_of_ble_eq_true rfl) (Or.inr ⟨_, _, 129, rfl, Or.inl rfl⟩) k50 rfl ?_
              refine go_lstore (L' := [some (pvR 11 0 129), some (pvI x1), some (pvI x2), some (pvI x3), some (pvI x4), some (pvI x5), some (pvI ((((j1 + (576 * x1)) + (48 * x2)) + (4 * x3)) + x4)), some (pvI j38.1), some (pvI j38.2), none, some (pvL v46.1), none, some (pvL v49.1), none]) (pc' := 261) dX11_value_259 rfl (Nat.le_of_ble_eq_true rfl) rfl ?_
              refine go_lload (pc' := 263) dX11_value_261 rfl rfl ?_
              refine go_ldc2 (pc' := 266) dX11_value_263 rfl (r64_c rfl) rc_11_262 ?_
              refine go_lcmp (pc' := 267) dX11_value_266 rfl ?_
              obtain ⟨j51, k52, h⟩ := bd h
              have k52J : Go none (Ev (d + F * 7 + 6)) mt209 305 [some (pvR 11 0 129), some (pvI x1), some (pvI x2), some (pvI x3), some (pvI x4), some (pvI x5), some (pvI ((((j1 + (576 * x1)) + (48 * x2)) + (4 * x3)) + x4)), some (pvI j38.1), some (pvI j38.2), none, some (pvL v46.1), none, some (pvL v49.1), none] [pvL j51] (true, n, e, v49.2) (0, some (pvL r.1), true, n, e, r.2) := by
                refine go_lstore (L' := [some (pvR 11 0 129), some (pvI x1), some (pvI x2), some (pvI x3), some (pvI x4), some (pvI x5), some (pvI ((((j1 + (576 * x1)) + (48 * x2)) + (4 * x3)) + x4)), some (pvI j38.1), some (pvL j51), none, some (pvL v46.1), none, some (pvL v49.1), none]) (pc' := 307) dX11_value_305 rfl (Nat.le_of_ble_eq_true rfl) rfl ?_
                refine go_goto (t := 321) dX11_value_307 rfl ?_
                cases h
                exact go_sub k41J ⟨Or.inr rfl, Or.inr rfl, Or.inr rfl, Or.inr rfl, Or.inr rfl, Or.inr rfl, Or.inr rfl, Or.inr rfl, Or.inr rfl, Or.inr rfl, Or.inl rfl, Or.inr rfl, Or.inl rfl, Or.inr rfl, trivial⟩
              clear h
              have h := k52
              refine go_if_eq (t := 286) (pc' := 270) dX11_value_267 rfl rfl (fun c59 => ?_) (fun c59 => ?_)
              · rw [if_pos (show (lcm v46.1 (-9223372036854775808)) = 0 from c59)] at h
                refine go_ldc2 (pc' := 289) dX11_value_286 rfl (r64_c rfl) rc_11_262 ?_
                refine go_goto (t := 305) dX11_value_289 rfl ?_
                cases h
                exact k52J
              · rw [if_neg (show ¬ ((lcm v46.1 (-9223372036854775808)) = 0) from c59)] at h
                refine go_lload (pc' := 272) dX11_value_270 rfl rfl ?_
                refine go_ldc2 (pc' := 275) dX11_value_272 rfl (r64_c rfl) rc_11_262 ?_
                refine go_lcmp (pc' := 276) dX11_value_275 rfl ?_
                refine go_if_eq (t := 286) (pc' := 279) dX11_value_276 rfl rfl (fun c58 => ?_) (fun c58 => ?_)
                · rw [if_pos (show (lcm v49.1 (-9223372036854775808)) = 0 from c58)] at h
                  refine go_ldc2 (pc' := 289) dX11_value_286 rfl (r64_c rfl) rc_11_262 ?_
                  refine go_goto (t := 305) dX11_value_289 rfl ?_
                  cases h
                  exact k52J
                · rw [if_neg (show ¬ ((lcm v49.1 (-9223372036854775808)) = 0) from c58)] at h
                  refine go_lload (pc' := 281) dX11_value_279 rfl rfl ?_
                  refine go_lconst (z := 0) (pc' := 282) dX11_value_281 rfl rfl ?_
                  refine go_lcmp (pc' := 283) dX11_value_282 rfl ?_
                  refine go_if_ne (t := 292) (pc' := 286) dX11_value_283 rfl rfl (fun c57 => ?_) (fun c57 => ?_)
                  · rw [if_pos (show (lcm v49.1 0) ≠ 0 from c57)] at h
                    refine go_aload_n (pc' := 293) dX11_value_292 rfl rfl (Nat.le_of_ble_eq_true rfl) ?_
                    refine go_ldc2 (pc' := 296) dX11_value_293 rfl (r64_c rfl) rc_11_279 ?_
                    refine go_lload (pc' := 298) dX11_value_296 rfl rfl ?_
                    obtain ⟨g53, h⟩ := gd h
                    refine go_lmul (pc' := 299) dX11_value_298 rfl g53 ?_
                    refine go_lload (pc' := 301) dX11_value_299 rfl rfl ?_
                    obtain ⟨g54, h⟩ := gd h
                    refine go_ldiv (pc' := 302) dX11_value_301 rfl g54 ?_
                    obtain ⟨v55, k56, h⟩ := bd h
                    have k56 := l_M_bound (d + F * 7 + 5) n e v49.2 (Int.tdiv (1000 * v46.1) v49.1) _ k56
                    refine go_call (kc := 213) (Mc := mt213) (v := some (pvL v55)) (w' := (true, n, e, v49.2)) (pc' := 305) (st' := [pvL v55]) [pvR 11 0 129, pvL (Int.tdiv (1000 * v46.1) v49.1)] [] (Or.inl rfl) dX11_value_302 rfl rm_11_281 mtE213 rfl rfl rfl (Nat.le_of_ble_eq_true rfl) (Or.inr ⟨_, _, 129, rfl, Or.inl rfl⟩) k56 rfl ?_
                    cases h
                    exact k52J
                  · rw [if_neg (show ¬ ((lcm v49.1 0) ≠ 0) from c57)] at h
                    refine go_ldc2 (pc' := 289) dX11_value_286 rfl (r64_c rfl) rc_11_262 ?_
                    refine go_goto (t := 305) dX11_value_289 rfl ?_
                    cases h
                    exact k52J
          · rw [if_neg (show ¬ (x5 ≠ 0) from c83)] at h
            refine go_aload_n (pc' := 197) dX11_value_196 rfl rfl (Nat.le_of_ble_eq_true rfl) ?_
            refine go_iload_n (pc' := 198) dX11_value_197 rfl rfl ?_
            refine go_iload_n (pc' := 199) dX11_value_198 rfl rfl ?_
            refine go_iload_n (pc' := 200) dX11_value_199 rfl rfl ?_
            refine go_iload (pc' := 202) dX11_value_200 rfl rfl ?_
            obtain ⟨v61, k62, h⟩ := bd h
            have k62 := l_M_isNothing (d + F * 7 + 2) n e σ x1 x2 x3 x4 _ k62
            refine go_call (kc := 217) (Mc := mt217) (v := some (pvI v61)) (w' := (true, n, e, σ)) (pc' := 205) (st' := [pvI v61]) [pvR 11 0 129, pvI x1, pvI x2, pvI x3, pvI x4] [] (Or.inl rfl) dX11_value_202 rfl rm_11_272 mtE217 rfl rfl rfl (Nat.le_of_ble_eq_true rfl) (Or.inr ⟨_, _, 129, rfl, Or.inl rfl⟩) k62 rfl ?_
            refine go_if_eq (t := 216) (pc' := 208) dX11_value_205 rfl rfl (fun c82 => ?_) (fun c82 => ?_)
            · rw [if_pos (show v61 = 0 from c82)] at h
              refine go_aload_n (pc' := 217) dX11_value_216 rfl rfl (Nat.le_of_ble_eq_true rfl) ?_
              refine go_getR (k' := 12) (L0 := 4) (P' := 146) (pc' := 220) dX11_value_217 rfl rf_11_60 rfl rfl (by omega) ?_
              refine go_iload (pc' := 222) dX11_value_220 rfl rfl ?_
              obtain ⟨g63, h⟩ := gd h
              refine go_iald (pc' := 223) dX11_value_222 rfl g63 ?_
              refine go_iconst (pc' := 224) dX11_value_223 rfl (r32_c rfl) ?_
              refine go_icmp_ne (t := 310) (pc' := 227) dX11_value_224 rfl rfl (fun c81 => ?_) (fun c81 => ?_)
              · rw [if_pos (show (σ 146 x4) ≠ 3 from c81)] at h
                refine go_aload_n (pc' := 311) dX11_value_310 rfl rfl (Nat.le_of_ble_eq_true rfl) ?_
                refine go_iload_n (pc' := 312) dX11_value_311 rfl rfl ?_
                refine go_iload_n (pc' := 313) dX11_value_312 rfl rfl ?_
                refine go_iload_n (pc' := 314) dX11_value_313 rfl rfl ?_
                refine go_iload (pc' := 316) dX11_value_314 rfl rfl ?_
                obtain ⟨v64, k65, h⟩ := bd h
                have k65 := l_M_plain (d + F * 7 + 1) n e σ x1 x2 x3 x4 _ k65
                refine go_call (kc := 218) (Mc := mt218) (v := some (pvL v64)) (w' := (true, n, e, σ)) (pc' := 319) (st' := [pvL v64]) [pvR 11 0 129, pvI x1, pvI x2, pvI x3, pvI x4] [] (Or.inl rfl) dX11_value_316 rfl rm_11_285 mtE218 rfl rfl rfl (Nat.le_of_ble_eq_true rfl) (Or.inr ⟨_, _, 129, rfl, Or.inl rfl⟩) k65 rfl ?_
                refine go_lstore (L' := [some (pvR 11 0 129), some (pvI x1), some (pvI x2), some (pvI x3), some (pvI x4), some (pvI x5), some (pvI ((((j1 + (576 * x1)) + (48 * x2)) + (4 * x3)) + x4)), some (pvI j38.1), some (pvL v64), none, none, none, none, none]) (pc' := 321) dX11_value_319 rfl (Nat.le_of_ble_eq_true rfl) rfl ?_
                cases h
                exact k41J
              · rw [if_neg (show ¬ ((σ 146 x4) ≠ 3) from c81)] at h
                refine go_aload_n (pc' := 228) dX11_value_227 rfl rfl (Nat.le_of_ble_eq_true rfl) ?_
                refine go_iload_n (pc' := 229) dX11_value_228 rfl rfl ?_
                refine go_iload_n (pc' := 230) dX11_value_229 rfl rfl ?_
                refine go_iload_n (pc' := 231) dX11_value_230 rfl rfl ?_
                refine go_aload_n (pc' := 232) dX11_value_231 rfl rfl (Nat.le_of_ble_eq_true rfl) ?_
                refine go_getR (k' := 12) (L0 := 4) (P' := 147) (pc' := 235) dX11_value_232 rfl rf_11_63 rfl rfl (by omega) ?_
                refine go_iload (pc' := 237) dX11_value_235 rfl rfl ?_
                obtain ⟨g66, h⟩ := gd h
                refine go_iald (pc' := 238) dX11_value_237 rfl g66 ?_
                refine go_iconst (pc' := 239) dX11_value_238 rfl (r32_c rfl) ?_
                obtain ⟨v67, k68, h⟩ := bd h
                have k68 := (by have z := ih (d + 6) n e σ x1 x2 x3 (σ 147 x4) 1 _ k68; rwa [show d + 6 + F * 7 = d + F * 7 + 6 by omega] at z)
                refine go_call (kc := 209) (Mc := mt209) (v := some (pvL v67.1)) (w' := (true, n, e, v67.2)) (pc' := 242) (st' := [pvL v67.1]) [pvR 11 0 129, pvI x1, pvI x2, pvI x3, pvI (σ 147 x4), pvI 1] [] (Or.inl rfl) dX11_value_239 rfl rm_11_275 mtE209 rfl rfl rfl (Nat.le_of_ble_eq_true rfl) (Or.inr ⟨_, _, 129, rfl, Or.inl rfl⟩) k68 rfl ?_
                refine go_lstore (L' := [some (pvR 11 0 129), some (pvI x1), some (pvI x2), some (pvI x3), some (pvI x4), some (pvI x5), some (pvI ((((j1 + (576 * x1)) + (48 * x2)) + (4 * x3)) + x4)), some (pvI j38.1), some (pvI j38.2), none, some (pvL v67.1), none, none, none]) (pc' := 244) dX11_value_242 rfl (Nat.le_of_ble_eq_true rfl) rfl ?_
                refine go_aload_n (pc' := 245) dX11_value_244 rfl rfl (Nat.le_of_ble_eq_true rfl) ?_
                refine go_iload_n (pc' := 246) dX11_value_245 rfl rfl ?_
                refine go_iload_n (pc' := 247) dX11_value_246 rfl rfl ?_
                refine go_iload_n (pc' := 248) dX11_value_247 rfl rfl ?_
                refine go_aload_n (pc' := 249) dX11_value_248 rfl rfl (Nat.le_of_ble_eq_true rfl) ?_
                refine go_getR (k' := 12) (L0 := 4) (P' := 148) (pc' := 252) dX11_value_249 rfl rf_11_66 rfl rfl (by omega) ?_
                refine go_iload (pc' := 254) dX11_value_252 rfl rfl ?_
                obtain ⟨g69, h⟩ := gd h
                refine go_iald (pc' := 255) dX11_value_254 rfl g69 ?_
                refine go_iconst (pc' := 256) dX11_value_255 rfl (r32_c rfl) ?_
                obtain ⟨v70, k71, h⟩ := bd h
                have k71 := (by have z := ih (d + 6) n e v67.2 x1 x2 x3 (v67.2 148 x4) 1 _ k71; rwa [show d + 6 + F * 7 = d + F * 7 + 6 by omega] at z)
                refine go_call (kc := 209) (Mc := mt209) (v := some (pvL v70.1)) (w' := (true, n, e, v70.2)) (pc' := 259) (st' := [pvL v70.1]) [pvR 11 0 129, pvI x1, pvI x2, pvI x3, pvI (v67.2 148 x4), pvI 1] [] (Or.inl rfl) dX11_value_256 rfl rm_11_275 mtE209 rfl rfl rfl (Nat.le_of_ble_eq_true rfl) (Or.inr ⟨_, _, 129, rfl, Or.inl rfl⟩) k71 rfl ?_
                refine go_lstore (L' := [some (pvR 11 0 129), some (pvI x1), some (pvI x2), some (pvI x3), some (pvI x4), some (pvI x5), some (pvI ((((j1 + (576 * x1)) + (48 * x2)) + (4 * x3)) + x4)), some (pvI j38.1), some (pvI j38.2), none, some (pvL v67.1), none, some (pvL v70.1), none]) (pc' := 261) dX11_value_259 rfl (Nat.le_of_ble_eq_true rfl) rfl ?_
                refine go_lload (pc' := 263) dX11_value_261 rfl rfl ?_
                refine go_ldc2 (pc' := 266) dX11_value_263 rfl (r64_c rfl) rc_11_262 ?_
                refine go_lcmp (pc' := 267) dX11_value_266 rfl ?_
                obtain ⟨j72, k73, h⟩ := bd h
                have k73J : Go none (Ev (d + F * 7 + 6)) mt209 305 [some (pvR 11 0 129), some (pvI x1), some (pvI x2), some (pvI x3), some (pvI x4), some (pvI x5), some (pvI ((((j1 + (576 * x1)) + (48 * x2)) + (4 * x3)) + x4)), some (pvI j38.1), some (pvI j38.2), none, some (pvL v67.1), none, some (pvL v70.1), none] [pvL j72] (true, n, e, v70.2) (0, some (pvL r.1), true, n, e, r.2) := by
                  refine go_lstore (L' := [some (pvR 11 0 129), some (pvI x1), some (pvI x2), some (pvI x3), some (pvI x4), some (pvI x5), some (pvI ((((j1 + (576 * x1)) + (48 * x2)) + (4 * x3)) + x4)), some (pvI j38.1), some (pvL j72), none, some (pvL v67.1), none, some (pvL v70.1), none]) (pc' := 307) dX11_value_305 rfl (Nat.le_of_ble_eq_true rfl) rfl ?_
                  refine go_goto (t := 321) dX11_value_307 rfl ?_
                  cases h
                  exact go_sub k41J ⟨Or.inr rfl, Or.inr rfl, Or.inr rfl, Or.inr rfl, Or.inr rfl, Or.inr rfl, Or.inr rfl, Or.inr rfl, Or.inr rfl, Or.inr rfl, Or.inl rfl, Or.inr rfl, Or.inl rfl, Or.inr rfl, trivial⟩
                clear h
                have h := k73
                refine go_if_eq (t := 286) (pc' := 270) dX11_value_267 rfl rfl (fun c80 => ?_) (fun c80 => ?_)
                · rw [if_pos (show (lcm v67.1 (-9223372036854775808)) = 0 from c80)] at h
                  refine go_ldc2 (pc' := 289) dX11_value_286 rfl (r64_c rfl) rc_11_262 ?_
                  refine go_goto (t := 305) dX11_value_289 rfl ?_
                  cases h
                  exact k73J
                · rw [if_neg (show ¬ ((lcm v67.1 (-9223372036854775808)) = 0) from c80)] at h
                  refine go_lload (pc' := 272) dX11_value_270 rfl rfl ?_
                  refine go_ldc2 (pc' := 275) dX11_value_272 rfl (r64_c rfl) rc_11_262 ?_
                  refine go_lcmp (pc' := 276) dX11_value_275 rfl ?_
                  refine go_if_eq (t := 286) (pc' := 279) dX11_value_276 rfl rfl (fun c79 => ?_) (fun c79 => ?_)
                  · rw [if_pos (show (lcm v70.1 (-9223372036854775808)) = 0 from c79)] at h
                    refine go_ldc2 (pc' := 289) dX11_value_286 rfl (r64_c rfl) rc_11_262 ?_
                    refine go_goto (t := 305) dX11_value_289 rfl ?_
                    cases h
                    exact k73J
                  · rw [if_neg (show ¬ ((lcm v70.1 (-9223372036854775808)) = 0) from c79)] at h
                    refine go_lload (pc' := 281) dX11_value_279 rfl rfl ?_
                    refine go_lconst (z := 0) (pc' := 282) dX11_value_281 rfl rfl ?_
                    refine go_lcmp (pc' := 283) dX11_value_282 rfl ?_
                    refine go_if_ne (t := 292) (pc' := 286) dX11_value_283 rfl rfl (fun c78 => ?_) (fun c78 => ?_)
                    · rw [if_pos (show (lcm v70.1 0) ≠ 0 from c78)] at h
                      refine go_aload_n (pc' := 293) dX11_value_292 rfl rfl (Nat.le_of_ble_eq_true rfl) ?_
                      refine go_ldc2 (pc' := 296) dX11_value_293 rfl (r64_c rfl) rc_11_279 ?_
                      refine go_lload (pc' := 298) dX11_value_296 rfl rfl ?_
                      obtain ⟨g74, h⟩ := gd h
                      refine go_lmul (pc' := 299) dX11_value_298 rfl g74 ?_
                      refine go_lload (pc' := 301) dX11_value_299 rfl rfl ?_
                      obtain ⟨g75, h⟩ := gd h
                      refine go_ldiv (pc' := 302) dX11_value_301 rfl g75 ?_
                      obtain ⟨v76, k77, h⟩ := bd h
                      have k77 := l_M_bound (d + F * 7 + 5) n e v70.2 (Int.tdiv (1000 * v67.1) v70.1) _ k77
                      refine go_call (kc := 213) (Mc := mt213) (v := some (pvL v76)) (w' := (true, n, e, v70.2)) (pc' := 305) (st' := [pvL v76]) [pvR 11 0 129, pvL (Int.tdiv (1000 * v67.1) v70.1)] [] (Or.inl rfl) dX11_value_302 rfl rm_11_281 mtE213 rfl rfl rfl (Nat.le_of_ble_eq_true rfl) (Or.inr ⟨_, _, 129, rfl, Or.inl rfl⟩) k77 rfl ?_
                      cases h
                      exact k73J
                    · rw [if_neg (show ¬ ((lcm v70.1 0) ≠ 0) from c78)] at h
                      refine go_ldc2 (pc' := 289) dX11_value_286 rfl (r64_c rfl) rc_11_262 ?_
                      refine go_goto (t := 305) dX11_value_289 rfl ?_
                      cases h
                      exact k73J
            · rw [if_neg (show ¬ (v61 = 0) from c82)] at h
              refine go_ldc2 (pc' := 211) dX11_value_208 rfl (r64_c rfl) rc_11_262 ?_
              refine go_lstore (L' := [some (pvR 11 0 129), some (pvI x1), some (pvI x2), some (pvI x3), some (pvI x4), some (pvI x5), some (pvI ((((j1 + (576 * x1)) + (48 * x2)) + (4 * x3)) + x4)), some (pvI j38.1), some (pvL (-9223372036854775808)), none, none, none, none, none]) (pc' := 213) dX11_value_211 rfl (Nat.le_of_ble_eq_true rfl) rfl ?_
              refine go_goto (t := 321) dX11_value_213 rfl ?_
              cases h
              exact k41J
        · rw [if_neg (show ¬ (j38.1 < 0) from c88)] at h
          refine go_aload_n (pc' := 174) dX11_value_173 rfl rfl (Nat.le_of_ble_eq_true rfl) ?_
          refine go_iload (pc' := 176) dX11_value_174 rfl rfl ?_
          refine go_iload_n (pc' := 177) dX11_value_176 rfl rfl ?_
          refine go_iload_n (pc' := 178) dX11_value_177 rfl rfl ?_
          refine go_iload_n (pc' := 179) dX11_value_178 rfl rfl ?_
          refine go_iload (pc' := 181) dX11_value_179 rfl rfl ?_
          refine go_iload (pc' := 183) dX11_value_181 rfl rfl ?_
          obtain ⟨v84, k85, h⟩ := bd h
          have k85 := l_M_formula (f_M_value F) (F * 7) (ih) (d + 0) n e σ j38.1 x1 x2 x3 x4 x5 _ k85
          refine go_call (kc := 210) (Mc := mt210) (v := some (pvL v84.1)) (w' := (true, n, e, v84.2)) (pc' := 186) (st' := [pvL v84.1]) [pvR 11 0 129, pvI j38.1, pvI x1, pvI x2, pvI x3, pvI x4, pvI x5] [] (Or.inl rfl) dX11_value_183 rfl rm_11_268 mtE210 rfl rfl rfl (Nat.le_of_ble_eq_true rfl) (Or.inr ⟨_, _, 129, rfl, Or.inl rfl⟩) k85 rfl ?_
          refine go_lstore (L' := [some (pvR 11 0 129), some (pvI x1), some (pvI x2), some (pvI x3), some (pvI x4), some (pvI x5), some (pvI ((((j1 + (576 * x1)) + (48 * x2)) + (4 * x3)) + x4)), some (pvI j38.1), some (pvL v84.1), none, none, none, none, none]) (pc' := 188) dX11_value_186 rfl (Nat.le_of_ble_eq_true rfl) rfl ?_
          refine go_goto (t := 321) dX11_value_188 rfl ?_
          cases h
          exact k41J
      · rw [if_neg (show ¬ ((σ 161 ((((j1 + (576 * x1)) + (48 * x2)) + (4 * x3)) + x4)) ≠ (σ 129 38)) from c90)] at h
        refine go_aload_n (pc' := 47) dX11_value_46 rfl rfl (Nat.le_of_ble_eq_true rfl) ?_
        refine go_getR (k' := 13) (L0 := 13824) (P' := 160) (pc' := 50) dX11_value_47 rfl rf_11_106 rfl rfl (by omega) ?_
        refine go_iload (pc' := 52) dX11_value_50 rfl rfl ?_
        obtain ⟨g89, h⟩ := gd h
        refine go_lald (pc' := 53) dX11_value_52 rfl g89 ?_
        cases h
        exact go_lret dX11_value_53 rfl rfl
    clear h
    have h := k2
    refine go_if_eq (t := 11) (pc' := 5) dX11_value_2 rfl rfl (fun c91 => ?_) (fun c91 => ?_)
    · rw [if_pos (show x5 = 0 from c91)] at h
      refine go_iconst (pc' := 12) dX11_value_11 rfl (r32_c rfl) ?_
      cases h
      exact k2J
    · rw [if_neg (show ¬ (x5 = 0) from c91)] at h
      refine go_sipush (pc' := 8) dX11_value_5 rfl (r32_c rfl) (by decide) ?_
      refine go_goto (t := 12) dX11_value_8 rfl ?_
      cases h
      exact k2J

set_option maxRecDepth 10000 in
theorem l_M_cell_64 (d : Nat) (n : Nat) (e : Nat) (x1 : Int) (x2 : Int) (x3 : Int) (x4 : Int) (v5 : Int × Hp) : ∀ (F : Nat) (y15 : Int) (r : Int × Hp), f_M_cell_64 x1 x2 x3 x4 v5 F y15 = some r → Go none (Ev (d + 280)) mt207 64 [some (pvR 11 0 129), some (pvI x1), some (pvI x2), some (pvI x3), some (pvI x4), some (pvI ((((576 * x1) + (48 * x2)) + (4 * x3)) + x4)), some (pvI y15)] [] (true, n, e, v5.2) (0, some (pvL r.1), true, n, e, r.2) := by
  intro F
  induction F with
  | zero =>
    intro _ _ h
    rw [f_M_cell_64] at h
    cases h
  | succ F ih =>
    intro y15 r h
    rw [f_M_cell_64] at h
    refine go_iload (pc' := 66) dX11_cell_64 rfl rfl ?_
    refine go_aload_n (pc' := 67) dX11_cell_66 rfl rfl (Nat.le_of_ble_eq_true rfl) ?_
    refine go_getI (pc' := 70) dX11_cell_67 rfl rf_11_163 rfl ?_
    refine go_icmp_ge (t := 112) (pc' := 73) dX11_cell_70 rfl rfl (fun c31 => ?_) (fun c31 => ?_)
    · rw [if_pos (show (v5.2 129 40) ≤ y15 from c31)] at h
      refine go_aload_n (pc' := 113) dX11_cell_112 rfl rfl (Nat.le_of_ble_eq_true rfl) ?_
      refine go_getR (k' := 12) (L0 := 21) (P' := 162) (pc' := 116) dX11_cell_113 rfl rf_11_116 rfl rfl (by omega) ?_
      refine go_aload_n (pc' := 117) dX11_cell_116 rfl rfl (Nat.le_of_ble_eq_true rfl) ?_
      refine go_getI (pc' := 120) dX11_cell_117 rfl rf_11_163 rfl ?_
      refine go_iload (pc' := 122) dX11_cell_120 rfl rfl ?_
      obtain ⟨g16, h⟩ := gd h
      refine go_iast (pc' := 123) dX11_cell_122 rfl g16 ?_
      refine go_aload_n (pc' := 124) dX11_cell_123 rfl rfl (Nat.le_of_ble_eq_true rfl) ?_
      refine go_dup (pc' := 125) dX11_cell_124 rfl (Nat.ne_of_beq_eq_false rfl) ?_
      refine go_getI (pc' := 128) dX11_cell_125 rfl rf_11_163 rfl ?_
      refine go_iconst (pc' := 129) dX11_cell_128 rfl (r32_c rfl) ?_
      obtain ⟨g17, h⟩ := gd h
      refine go_iadd (pc' := 130) dX11_cell_129 rfl g17 ?_
      refine go_putI (pc' := 133) dX11_cell_130 rfl rf_11_163 rfl ?_
      refine go_aload_n (pc' := 134) dX11_cell_133 rfl rfl (Nat.le_of_ble_eq_true rfl) ?_
      refine go_getI (pc' := 137) dX11_cell_134 rfl rf_11_163 rfl ?_
      refine go_bipush (pc' := 139) dX11_cell_137 rfl (r32_c rfl) (by decide) ?_
      obtain ⟨j18, k19, h⟩ := bd h
      have k19J : Go none (Ev (d + 280)) mt207 147 [some (pvR 11 0 129), some (pvI x1), some (pvI x2), some (pvI x3), some (pvI x4), some (pvI ((((576 * x1) + (48 * x2)) + (4 * x3)) + x4)), some (pvI y15)] [] (true, n, e, j18) (0, some (pvL r.1), true, n, e, r.2) := by
        refine go_aload_n (pc' := 148) dX11_cell_147 rfl rfl (Nat.le_of_ble_eq_true rfl) ?_
        refine go_iload_n (pc' := 149) dX11_cell_148 rfl rfl ?_
        refine go_iload_n (pc' := 150) dX11_cell_149 rfl rfl ?_
        refine go_iload_n (pc' := 151) dX11_cell_150 rfl rfl ?_
        refine go_iload (pc' := 153) dX11_cell_151 rfl rfl ?_
        refine go_iconst (pc' := 154) dX11_cell_153 rfl (r32_c rfl) ?_
        obtain ⟨v22, k23, h⟩ := bd h
        have k23 := l_M_value zDeep (d + 0) n e j18 x1 x2 x3 x4 0 _ k23
        refine go_call (kc := 209) (Mc := mt209) (v := some (pvL v22.1)) (w' := (true, n, e, v22.2)) (pc' := 157) (st' := [pvL v22.1]) [pvR 11 0 129, pvI x1, pvI x2, pvI x3, pvI x4, pvI 0] [] (Or.inl rfl) dX11_cell_154 rfl rm_11_275 mtE209 rfl rfl rfl (Nat.le_of_ble_eq_true rfl) (Or.inr ⟨_, _, 129, rfl, Or.inl rfl⟩) k23 rfl ?_
        cases h
        exact go_lret dX11_cell_157 rfl rfl
      clear h
      have h := k19
      refine go_icmp_le (t := 147) (pc' := 142) dX11_cell_139 rfl rfl (fun c24 => ?_) (fun c24 => ?_)
      · rw [if_pos (show ((hset (hset v5.2 162 (v5.2 129 40) ((((576 * x1) + (48 * x2)) + (4 * x3)) + x4)) 129 40 (((hset v5.2 162 (v5.2 129 40) ((((576 * x1) + (48 * x2)) + (4 * x3)) + x4)) 129 40) + 1)) 129 40) ≤ 20 from c24)] at h
        cases h
        exact k19J
      · rw [if_neg (show ¬ (((hset (hset v5.2 162 (v5.2 129 40) ((((576 * x1) + (48 * x2)) + (4 * x3)) + x4)) 129 40 (((hset v5.2 162 (v5.2 129 40) ((((576 * x1) + (48 * x2)) + (4 * x3)) + x4)) 129 40) + 1)) 129 40) ≤ 20) from c24)] at h
        refine go_aload_n (pc' := 143) dX11_cell_142 rfl rfl (Nat.le_of_ble_eq_true rfl) ?_
        refine go_iconst (pc' := 144) dX11_cell_143 rfl (r32_c rfl) ?_
        obtain ⟨v20, k21, h⟩ := bd h
        have k21 := l_M_remove (d + 279) n e (hset (hset v5.2 162 (v5.2 129 40) ((((576 * x1) + (48 * x2)) + (4 * x3)) + x4)) 129 40 (((hset v5.2 162 (v5.2 129 40) ((((576 * x1) + (48 * x2)) + (4 * x3)) + x4)) 129 40) + 1)) 0 _ k21
        refine go_call (kc := 205) (Mc := mt205) (v := none) (w' := (true, n, e, v20)) (pc' := 147) (st' := []) [pvR 11 0 129, pvI 0] [] (Or.inl rfl) dX11_cell_144 rfl rm_11_318 mtE205 rfl rfl rfl (Nat.le_of_ble_eq_true rfl) (Or.inr ⟨_, _, 129, rfl, Or.inl rfl⟩) k21 rfl ?_
        cases h
        exact k19J
    · rw [if_neg (show ¬ ((v5.2 129 40) ≤ y15) from c31)] at h
      refine go_aload_n (pc' := 74) dX11_cell_73 rfl rfl (Nat.le_of_ble_eq_true rfl) ?_
      refine go_getR (k' := 12) (L0 := 21) (P' := 162) (pc' := 77) dX11_cell_74 rfl rf_11_116 rfl rfl (by omega) ?_
      refine go_iload (pc' := 79) dX11_cell_77 rfl rfl ?_
      obtain ⟨g25, h⟩ := gd h
      refine go_iald (pc' := 80) dX11_cell_79 rfl g25 ?_
      refine go_iload (pc' := 82) dX11_cell_80 rfl rfl ?_
      refine go_icmp_ne (t := 106) (pc' := 85) dX11_cell_82 rfl rfl (fun c30 => ?_) (fun c30 => ?_)
      · rw [if_pos (show (v5.2 162 y15) ≠ ((((576 * x1) + (48 * x2)) + (4 * x3)) + x4) from c30)] at h
        obtain ⟨g26, h⟩ := gd h
        refine go_iinc (L' := [some (pvR 11 0 129), some (pvI x1), some (pvI x2), some (pvI x3), some (pvI x4), some (pvI ((((576 * x1) + (48 * x2)) + (4 * x3)) + x4)), some (pvI (y15 + 1))]) (pc' := 109) dX11_cell_106 rfl rfl g26 rfl ?_
        refine go_goto (t := 64) dX11_cell_109 rfl ?_
        exact ih (y15 + 1) _ h
      · rw [if_neg (show ¬ ((v5.2 162 y15) ≠ ((((576 * x1) + (48 * x2)) + (4 * x3)) + x4)) from c30)] at h
        refine go_aload_n (pc' := 86) dX11_cell_85 rfl rfl (Nat.le_of_ble_eq_true rfl) ?_
        refine go_dup (pc' := 87) dX11_cell_86 rfl (Nat.ne_of_beq_eq_false rfl) ?_
        refine go_getI (pc' := 90) dX11_cell_87 rfl rf_11_315 rfl ?_
        refine go_iconst (pc' := 91) dX11_cell_90 rfl (r32_c rfl) ?_
        obtain ⟨g27, h⟩ := gd h
        refine go_iadd (pc' := 92) dX11_cell_91 rfl g27 ?_
        refine go_putI (pc' := 95) dX11_cell_92 rfl rf_11_315 rfl ?_
        refine go_aload_n (pc' := 96) dX11_cell_95 rfl rfl (Nat.le_of_ble_eq_true rfl) ?_
        refine go_iload_n (pc' := 97) dX11_cell_96 rfl rfl ?_
        refine go_iload_n (pc' := 98) dX11_cell_97 rfl rfl ?_
        refine go_iload_n (pc' := 99) dX11_cell_98 rfl rfl ?_
        refine go_iload (pc' := 101) dX11_cell_99 rfl rfl ?_
        refine go_iconst (pc' := 102) dX11_cell_101 rfl (r32_c rfl) ?_
        obtain ⟨v28, k29, h⟩ := bd h
        have k29 := l_M_value zDeep (d + 0) n e (hset v5.2 129 41 ((v5.2 129 41) + 1)) x1 x2 x3 x4 0 _ k29
        refine go_call (kc := 209) (Mc := mt209) (v := some (pvL v28.1)) (w' := (true, n, e, v28.2)) (pc' := 105) (st' := [pvL v28.1]) [pvR 11 0 129, pvI x1, pvI x2, pvI x3, pvI x4, pvI 0] [] (Or.inl rfl) dX11_cell_102 rfl rm_11_275 mtE209 rfl rfl rfl (Nat.le_of_ble_eq_true rfl) (Or.inr ⟨_, _, 129, rfl, Or.inl rfl⟩) k29 rfl ?_
        cases h
        exact go_lret dX11_cell_105 rfl rfl

set_option maxRecDepth 10000 in
theorem l_M_cell (d : Nat) (n e : Nat) (σ : Hp) (x1 : Int) (x2 : Int) (x3 : Int) (x4 : Int) (r : Int × Hp) (h : f_M_cell σ x1 x2 x3 x4 = some r) : Ev (d + 281) 207 [pvR 11 0 129, pvI x1, pvI x2, pvI x3, pvI x4] (true, n, e, σ) (0, some (pvL r.1), true, n, e, r.2) := by
  unfold f_M_cell at h
  refine Ev.of mtE207 rfl rfl rfl rfl ?_
  show Go none (Ev (d + 280)) mt207 0 [some (pvR 11 0 129), some (pvI x1), some (pvI x2), some (pvI x3), some (pvI x4), none, none] [] (true, n, e, σ) (0, some (pvL r.1), true, n, e, r.2)
  refine go_aload_n (pc' := 1) dX11_cell_0 rfl rfl (Nat.le_of_ble_eq_true rfl) ?_
  refine go_aload_n (pc' := 2) dX11_cell_1 rfl rfl (Nat.le_of_ble_eq_true rfl) ?_
  refine go_iload_n (pc' := 3) dX11_cell_2 rfl rfl ?_
  refine go_iload_n (pc' := 4) dX11_cell_3 rfl rfl ?_
  refine go_iload_n (pc' := 5) dX11_cell_4 rfl rfl ?_
  refine go_iload (pc' := 7) dX11_cell_5 rfl rfl ?_
  obtain ⟨v1, k2, h⟩ := bd h
  have k2 := l_M_areThere (d + 276) n e σ x1 x2 x3 x4 _ k2
  refine go_call (kc := 196) (Mc := mt196) (v := some (pvI v1)) (w' := (true, n, e, σ)) (pc' := 10) (st' := [pvI v1, pvR 11 0 129]) [pvR 11 0 129, pvI x1, pvI x2, pvI x3, pvI x4] [pvR 11 0 129] (Or.inl rfl) dX11_cell_7 rfl rm_11_233 mtE196 rfl rfl rfl (Nat.le_of_ble_eq_true rfl) (Or.inr ⟨_, _, 129, rfl, Or.inl rfl⟩) k2 rfl ?_
  obtain ⟨j3, k4, h⟩ := bd h
  have k4J : Go none (Ev (d + 280)) mt207 18 [some (pvR 11 0 129), some (pvI x1), some (pvI x2), some (pvI x3), some (pvI x4), none, none] [pvI j3, pvR 11 0 129] (true, n, e, σ) (0, some (pvL r.1), true, n, e, r.2) := by
    obtain ⟨v5, k6, h⟩ := bd h
    have k6 := l_M_holds (d + 279) n e σ j3 _ k6
    refine go_call (kc := 174) (Mc := mt174) (v := some (pvI v5.1)) (w' := (true, n, e, v5.2)) (pc' := 21) (st' := [pvI v5.1]) [pvR 11 0 129, pvI j3] [] (Or.inl rfl) dX11_cell_18 rfl rm_11_185 mtE174 rfl rfl rfl (Nat.le_of_ble_eq_true rfl) (Or.inr ⟨_, _, 129, rfl, Or.inl rfl⟩) k6 rfl ?_
    refine go_if_eq (t := 28) (pc' := 24) dX11_cell_21 rfl rfl (fun c33 => ?_) (fun c33 => ?_)
    · rw [if_pos (show v5.1 = 0 from c33)] at h
      refine go_aload_n (pc' := 29) dX11_cell_28 rfl rfl (Nat.le_of_ble_eq_true rfl) ?_
      refine go_iload_n (pc' := 30) dX11_cell_29 rfl rfl ?_
      refine go_iload_n (pc' := 31) dX11_cell_30 rfl rfl ?_
      refine go_iload_n (pc' := 32) dX11_cell_31 rfl rfl ?_
      obtain ⟨v7, k8, h⟩ := bd h
      have k8 := l_M_areSeen (d + 276) n e v5.2 x1 x2 x3 _ k8
      refine go_call (kc := 208) (Mc := mt208) (v := some (pvI v7)) (w' := (true, n, e, v5.2)) (pc' := 35) (st' := [pvI v7]) [pvR 11 0 129, pvI x1, pvI x2, pvI x3] [] (Or.inl rfl) dX11_cell_32 rfl rm_11_311 mtE208 rfl rfl rfl (Nat.le_of_ble_eq_true rfl) (Or.inr ⟨_, _, 129, rfl, Or.inl rfl⟩) k8 rfl ?_
      refine go_if_ne (t := 42) (pc' := 38) dX11_cell_35 rfl rfl (fun c32 => ?_) (fun c32 => ?_)
      · rw [if_pos (show v7 ≠ 0 from c32)] at h
        refine go_sipush (pc' := 45) dX11_cell_42 rfl (r32_c rfl) (by decide) ?_
        refine go_iload_n (pc' := 46) dX11_cell_45 rfl rfl ?_
        obtain ⟨g9, h⟩ := gd h
        refine go_imul (pc' := 47) dX11_cell_46 rfl g9 ?_
        refine go_bipush (pc' := 49) dX11_cell_47 rfl (r32_c rfl) (by decide) ?_
        refine go_iload_n (pc' := 50) dX11_cell_49 rfl rfl ?_
        obtain ⟨g10, h⟩ := gd h
        refine go_imul (pc' := 51) dX11_cell_50 rfl g10 ?_
        obtain ⟨g11, h⟩ := gd h
        refine go_iadd (pc' := 52) dX11_cell_51 rfl g11 ?_
        refine go_iconst (pc' := 53) dX11_cell_52 rfl (r32_c rfl) ?_
        refine go_iload_n (pc' := 54) dX11_cell_53 rfl rfl ?_
        obtain ⟨g12, h⟩ := gd h
        refine go_imul (pc' := 55) dX11_cell_54 rfl g12 ?_
        obtain ⟨g13, h⟩ := gd h
        refine go_iadd (pc' := 56) dX11_cell_55 rfl g13 ?_
        refine go_iload (pc' := 58) dX11_cell_56 rfl rfl ?_
        obtain ⟨g14, h⟩ := gd h
        refine go_iadd (pc' := 59) dX11_cell_58 rfl g14 ?_
        refine go_istore (L' := [some (pvR 11 0 129), some (pvI x1), some (pvI x2), some (pvI x3), some (pvI x4), some (pvI ((((576 * x1) + (48 * x2)) + (4 * x3)) + x4)), none]) (pc' := 61) dX11_cell_59 rfl (Nat.le_of_ble_eq_true rfl) rfl ?_
        refine go_iconst (pc' := 62) dX11_cell_61 rfl (r32_c rfl) ?_
        refine go_istore (L' := [some (pvR 11 0 129), some (pvI x1), some (pvI x2), some (pvI x3), some (pvI x4), some (pvI ((((576 * x1) + (48 * x2)) + (4 * x3)) + x4)), some (pvI 0)]) (pc' := 64) dX11_cell_62 rfl (Nat.le_of_ble_eq_true rfl) rfl ?_
        exact l_M_cell_64 d n e x1 x2 x3 x4 v5 zFuel 0 _ h
      · rw [if_neg (show ¬ (v7 ≠ 0) from c32)] at h
        refine go_ldc2 (pc' := 41) dX11_cell_38 rfl (r64_c rfl) rc_11_262 ?_
        cases h
        exact go_lret dX11_cell_41 rfl rfl
    · rw [if_neg (show ¬ (v5.1 = 0) from c33)] at h
      refine go_ldc2 (pc' := 27) dX11_cell_24 rfl (r64_c rfl) rc_11_183 ?_
      cases h
      exact go_lret dX11_cell_27 rfl rfl
  clear h
  have h := k4
  refine go_if_eq (t := 17) (pc' := 13) dX11_cell_10 rfl rfl (fun c34 => ?_) (fun c34 => ?_)
  · rw [if_pos (show v1 = 0 from c34)] at h
    refine go_iconst (pc' := 18) dX11_cell_17 rfl (r32_c rfl) ?_
    cases h
    exact k4J
  · rw [if_neg (show ¬ (v1 = 0) from c34)] at h
    refine go_iconst (pc' := 14) dX11_cell_13 rfl (r32_c rfl) ?_
    refine go_goto (t := 18) dX11_cell_14 rfl ?_
    cases h
    exact k4J

set_option maxRecDepth 10000 in
theorem l_M_ask (d : Nat) (n e : Nat) (σ : Hp) (x1 : Int) (x2 : Int) (x3 : Int) (x4 : Int) (r : Int × Hp) (h : f_M_ask σ x1 x2 x3 x4 = some r) : Ev (d + 281) 220 [pvR 11 0 129, pvI x1, pvI x2, pvI x3, pvI x4] (true, n, e, σ) (0, some (pvL r.1), true, n, e, r.2) := by
  unfold f_M_ask at h
  refine Ev.of mtE220 rfl rfl rfl rfl ?_
  show Go none (Ev (d + 280)) mt220 0 [some (pvR 11 0 129), some (pvI x1), some (pvI x2), some (pvI x3), some (pvI x4)] [] (true, n, e, σ) (0, some (pvL r.1), true, n, e, r.2)
  refine go_aload_n (pc' := 1) dX11_ask_0 rfl rfl (Nat.le_of_ble_eq_true rfl) ?_
  refine go_iload_n (pc' := 2) dX11_ask_1 rfl rfl ?_
  refine go_iload_n (pc' := 3) dX11_ask_2 rfl rfl ?_
  refine go_iload_n (pc' := 4) dX11_ask_3 rfl rfl ?_
  obtain ⟨v1, k2, h⟩ := bd h
  have k2 := l_M_areSeen (d + 276) n e σ x1 x2 x3 _ k2
  refine go_call (kc := 208) (Mc := mt208) (v := some (pvI v1)) (w' := (true, n, e, σ)) (pc' := 7) (st' := [pvI v1]) [pvR 11 0 129, pvI x1, pvI x2, pvI x3] [] (Or.inl rfl) dX11_ask_4 rfl rm_11_311 mtE208 rfl rfl rfl (Nat.le_of_ble_eq_true rfl) (Or.inr ⟨_, _, 129, rfl, Or.inl rfl⟩) k2 rfl ?_
  obtain ⟨j3, k4, h⟩ := bd h
  have k4J : Go none (Ev (d + 280)) mt220 26 [some (pvR 11 0 129), some (pvI x1), some (pvI x2), some (pvI x3), some (pvI x4)] [pvL j3.1] (true, n, e, j3.2) (0, some (pvL r.1), true, n, e, r.2) := by
    cases h
    exact go_lret dX11_ask_26 rfl rfl
  clear h
  have h := k4
  refine go_if_eq (t := 23) (pc' := 10) dX11_ask_7 rfl rfl (fun c7 => ?_) (fun c7 => ?_)
  · rw [if_pos (show v1 = 0 from c7)] at h
    refine go_ldc2 (pc' := 26) dX11_ask_23 rfl (r64_c rfl) rc_11_262 ?_
    cases h
    exact k4J
  · rw [if_neg (show ¬ (v1 = 0) from c7)] at h
    refine go_aload_n (pc' := 11) dX11_ask_10 rfl rfl (Nat.le_of_ble_eq_true rfl) ?_
    refine go_iload_n (pc' := 12) dX11_ask_11 rfl rfl ?_
    refine go_iload_n (pc' := 13) dX11_ask_12 rfl rfl ?_
    refine go_iload_n (pc' := 14) dX11_ask_13 rfl rfl ?_
    refine go_iload (pc' := 16) dX11_ask_14 rfl rfl ?_
    refine go_iconst (pc' := 17) dX11_ask_16 rfl (r32_c rfl) ?_
    obtain ⟨v5, k6, h⟩ := bd h
    have k6 := l_M_value zDeep (d + 0) n e σ x1 x2 x3 x4 0 _ k6
    refine go_call (kc := 209) (Mc := mt209) (v := some (pvL v5.1)) (w' := (true, n, e, v5.2)) (pc' := 20) (st' := [pvL v5.1]) [pvR 11 0 129, pvI x1, pvI x2, pvI x3, pvI x4, pvI 0] [] (Or.inl rfl) dX11_ask_17 rfl rm_11_275 mtE209 rfl rfl rfl (Nat.le_of_ble_eq_true rfl) (Or.inr ⟨_, _, 129, rfl, Or.inl rfl⟩) k6 rfl ?_
    refine go_goto (t := 26) dX11_ask_20 rfl ?_
    cases h
    exact k4J

set_option maxRecDepth 10000 in
theorem l_M_cellAnew (d : Nat) (n e : Nat) (σ : Hp) (x1 : Int) (x2 : Int) (x3 : Int) (x4 : Int) (r : Int × Hp) (h : f_M_cellAnew σ x1 x2 x3 x4 = some r) : Ev (d + 282) 219 [pvR 11 0 129, pvI x1, pvI x2, pvI x3, pvI x4] (true, n, e, σ) (0, some (pvL r.1), true, n, e, r.2) := by
  unfold f_M_cellAnew at h
  refine Ev.of mtE219 rfl rfl rfl rfl ?_
  show Go none (Ev (d + 281)) mt219 0 [some (pvR 11 0 129), some (pvI x1), some (pvI x2), some (pvI x3), some (pvI x4)] [] (true, n, e, σ) (0, some (pvL r.1), true, n, e, r.2)
  refine go_aload_n (pc' := 1) dX11_cellAnew_0 rfl rfl (Nat.le_of_ble_eq_true rfl) ?_
  refine go_aload_n (pc' := 2) dX11_cellAnew_1 rfl rfl (Nat.le_of_ble_eq_true rfl) ?_
  refine go_iload_n (pc' := 3) dX11_cellAnew_2 rfl rfl ?_
  refine go_iload_n (pc' := 4) dX11_cellAnew_3 rfl rfl ?_
  refine go_iload_n (pc' := 5) dX11_cellAnew_4 rfl rfl ?_
  refine go_iload (pc' := 7) dX11_cellAnew_5 rfl rfl ?_
  obtain ⟨v1, k2, h⟩ := bd h
  have k2 := l_M_areThere (d + 277) n e σ x1 x2 x3 x4 _ k2
  refine go_call (kc := 196) (Mc := mt196) (v := some (pvI v1)) (w' := (true, n, e, σ)) (pc' := 10) (st' := [pvI v1, pvR 11 0 129]) [pvR 11 0 129, pvI x1, pvI x2, pvI x3, pvI x4] [pvR 11 0 129] (Or.inl rfl) dX11_cellAnew_7 rfl rm_11_233 mtE196 rfl rfl rfl (Nat.le_of_ble_eq_true rfl) (Or.inr ⟨_, _, 129, rfl, Or.inl rfl⟩) k2 rfl ?_
  obtain ⟨j3, k4, h⟩ := bd h
  have k4J : Go none (Ev (d + 281)) mt219 18 [some (pvR 11 0 129), some (pvI x1), some (pvI x2), some (pvI x3), some (pvI x4)] [pvI j3, pvR 11 0 129] (true, n, e, σ) (0, some (pvL r.1), true, n, e, r.2) := by
    obtain ⟨v5, k6, h⟩ := bd h
    have k6 := l_M_holds (d + 280) n e σ j3 _ k6
    refine go_call (kc := 174) (Mc := mt174) (v := some (pvI v5.1)) (w' := (true, n, e, v5.2)) (pc' := 21) (st' := [pvI v5.1]) [pvR 11 0 129, pvI j3] [] (Or.inl rfl) dX11_cellAnew_18 rfl rm_11_185 mtE174 rfl rfl rfl (Nat.le_of_ble_eq_true rfl) (Or.inr ⟨_, _, 129, rfl, Or.inl rfl⟩) k6 rfl ?_
    obtain ⟨j7, k8, h⟩ := bd h
    have k8J : Go none (Ev (d + 281)) mt219 39 [some (pvR 11 0 129), some (pvI x1), some (pvI x2), some (pvI x3), some (pvI x4)] [pvL j7.1] (true, n, e, j7.2) (0, some (pvL r.1), true, n, e, r.2) := by
      cases h
      exact go_lret dX11_cellAnew_39 rfl rfl
    clear h
    have h := k8
    refine go_if_eq (t := 30) (pc' := 24) dX11_cellAnew_21 rfl rfl (fun c11 => ?_) (fun c11 => ?_)
    · rw [if_pos (show v5.1 = 0 from c11)] at h
      refine go_aload_n (pc' := 31) dX11_cellAnew_30 rfl rfl (Nat.le_of_ble_eq_true rfl) ?_
      refine go_iload_n (pc' := 32) dX11_cellAnew_31 rfl rfl ?_
      refine go_iload_n (pc' := 33) dX11_cellAnew_32 rfl rfl ?_
      refine go_iload_n (pc' := 34) dX11_cellAnew_33 rfl rfl ?_
      refine go_iload (pc' := 36) dX11_cellAnew_34 rfl rfl ?_
      obtain ⟨v9, k10, h⟩ := bd h
      have k10 := l_M_ask (d + 0) n e v5.2 x1 x2 x3 x4 _ k10
      refine go_call (kc := 220) (Mc := mt220) (v := some (pvL v9.1)) (w' := (true, n, e, v9.2)) (pc' := 39) (st' := [pvL v9.1]) [pvR 11 0 129, pvI x1, pvI x2, pvI x3, pvI x4] [] (Or.inl rfl) dX11_cellAnew_36 rfl rm_11_324 mtE220 rfl rfl rfl (Nat.le_of_ble_eq_true rfl) (Or.inr ⟨_, _, 129, rfl, Or.inl rfl⟩) k10 rfl ?_
      cases h
      exact k8J
    · rw [if_neg (show ¬ (v5.1 = 0) from c11)] at h
      refine go_ldc2 (pc' := 27) dX11_cellAnew_24 rfl (r64_c rfl) rc_11_183 ?_
      refine go_goto (t := 39) dX11_cellAnew_27 rfl ?_
      cases h
      exact k8J
  clear h
  have h := k4
  refine go_if_eq (t := 17) (pc' := 13) dX11_cellAnew_10 rfl rfl (fun c12 => ?_) (fun c12 => ?_)
  · rw [if_pos (show v1 = 0 from c12)] at h
    refine go_iconst (pc' := 18) dX11_cellAnew_17 rfl (r32_c rfl) ?_
    cases h
    exact k4J
  · rw [if_neg (show ¬ (v1 = 0) from c12)] at h
    refine go_iconst (pc' := 14) dX11_cellAnew_13 rfl (r32_c rfl) ?_
    refine go_goto (t := 18) dX11_cellAnew_14 rfl ?_
    cases h
    exact k4J

set_option maxRecDepth 10000 in
theorem l_M_kept (d : Nat) (n e : Nat) (σ : Hp) (r : Int × Hp) (h : f_M_kept σ = some r) : Ev (d + 2) 221 [pvR 11 0 129] (true, n, e, σ) (0, some (pvI r.1), true, n, e, r.2) := by
  unfold f_M_kept at h
  refine Ev.of mtE221 rfl rfl rfl rfl ?_
  show Go none (Ev (d + 1)) mt221 0 [some (pvR 11 0 129)] [] (true, n, e, σ) (0, some (pvI r.1), true, n, e, r.2)
  refine go_aload_n (pc' := 1) dX11_kept_0 rfl rfl (Nat.le_of_ble_eq_true rfl) ?_
  refine go_iconst (pc' := 2) dX11_kept_1 rfl (r32_c rfl) ?_
  obtain ⟨v1, k2, h⟩ := bd h
  have k2 := l_M_holds (d + 0) n e σ 0 _ k2
  refine go_call (kc := 174) (Mc := mt174) (v := some (pvI v1.1)) (w' := (true, n, e, v1.2)) (pc' := 5) (st' := [pvI v1.1]) [pvR 11 0 129, pvI 0] [] (Or.inl rfl) dX11_kept_2 rfl rm_11_185 mtE174 rfl rfl rfl (Nat.le_of_ble_eq_true rfl) (Or.inr ⟨_, _, 129, rfl, Or.inl rfl⟩) k2 rfl ?_
  refine go_pop (pc' := 6) dX11_kept_5 rfl (Nat.ne_of_beq_eq_false rfl) ?_
  refine go_aload_n (pc' := 7) dX11_kept_6 rfl rfl (Nat.le_of_ble_eq_true rfl) ?_
  refine go_getI (pc' := 10) dX11_kept_7 rfl rf_11_163 rfl ?_
  cases h
  exact go_iret dX11_kept_10 rfl rfl

set_option maxRecDepth 10000 in
theorem l_M_hits (d : Nat) (n e : Nat) (σ : Hp) (r : Int × Hp) (h : f_M_hits σ = some r) : Ev (d + 2) 222 [pvR 11 0 129] (true, n, e, σ) (0, some (pvI r.1), true, n, e, r.2) := by
  unfold f_M_hits at h
  refine Ev.of mtE222 rfl rfl rfl rfl ?_
  show Go none (Ev (d + 1)) mt222 0 [some (pvR 11 0 129)] [] (true, n, e, σ) (0, some (pvI r.1), true, n, e, r.2)
  refine go_aload_n (pc' := 1) dX11_hits_0 rfl rfl (Nat.le_of_ble_eq_true rfl) ?_
  refine go_iconst (pc' := 2) dX11_hits_1 rfl (r32_c rfl) ?_
  obtain ⟨v1, k2, h⟩ := bd h
  have k2 := l_M_holds (d + 0) n e σ 0 _ k2
  refine go_call (kc := 174) (Mc := mt174) (v := some (pvI v1.1)) (w' := (true, n, e, v1.2)) (pc' := 5) (st' := [pvI v1.1]) [pvR 11 0 129, pvI 0] [] (Or.inl rfl) dX11_hits_2 rfl rm_11_185 mtE174 rfl rfl rfl (Nat.le_of_ble_eq_true rfl) (Or.inr ⟨_, _, 129, rfl, Or.inl rfl⟩) k2 rfl ?_
  refine go_pop (pc' := 6) dX11_hits_5 rfl (Nat.ne_of_beq_eq_false rfl) ?_
  refine go_aload_n (pc' := 7) dX11_hits_6 rfl rfl (Nat.le_of_ble_eq_true rfl) ?_
  refine go_getI (pc' := 10) dX11_hits_7 rfl rf_11_315 rfl ?_
  cases h
  exact go_iret dX11_hits_10 rfl rfl

set_option maxRecDepth 10000 in
theorem l_M_at (d : Nat) (n e : Nat) (σ : Hp) (x1 : Int) (x2 : Int) (r : Int × Hp) (h : f_M_at σ x1 x2 = some r) : Ev (d + 4) 223 [pvR 11 0 129, pvI x1, pvI x2] (true, n, e, σ) (0, some (pvI r.1), true, n, e, r.2) := by
  unfold f_M_at at h
  refine Ev.of mtE223 rfl rfl rfl rfl ?_
  show Go none (Ev (d + 3)) mt223 0 [some (pvR 11 0 129), some (pvI x1), some (pvI x2), none] [] (true, n, e, σ) (0, some (pvI r.1), true, n, e, r.2)
  refine go_aload_n (pc' := 1) dX11_at_0 rfl rfl (Nat.le_of_ble_eq_true rfl) ?_
  refine go_aload_n (pc' := 2) dX11_at_1 rfl rfl (Nat.le_of_ble_eq_true rfl) ?_
  refine go_iload_n (pc' := 3) dX11_at_2 rfl rfl ?_
  refine go_iload_n (pc' := 4) dX11_at_3 rfl rfl ?_
  obtain ⟨v1, k2, h⟩ := bd h
  have k2 := l_M_is (d + 0) n e σ x1 x2 _ k2
  refine go_call (kc := 170) (Mc := mt170) (v := some (pvI v1)) (w' := (true, n, e, σ)) (pc' := 7) (st' := [pvI v1, pvR 11 0 129]) [pvR 11 0 129, pvI x1, pvI x2] [pvR 11 0 129] (Or.inl rfl) dX11_at_4 rfl rm_11_156 mtE170 rfl rfl rfl (Nat.le_of_ble_eq_true rfl) (Or.inr ⟨_, _, 129, rfl, Or.inl rfl⟩) k2 rfl ?_
  obtain ⟨j3, k4, h⟩ := bd h
  have k4J : Go none (Ev (d + 3)) mt223 15 [some (pvR 11 0 129), some (pvI x1), some (pvI x2), none] [pvI j3, pvR 11 0 129] (true, n, e, σ) (0, some (pvI r.1), true, n, e, r.2) := by
    obtain ⟨v5, k6, h⟩ := bd h
    have k6 := l_M_holds (d + 2) n e σ j3 _ k6
    refine go_call (kc := 174) (Mc := mt174) (v := some (pvI v5.1)) (w' := (true, n, e, v5.2)) (pc' := 18) (st' := [pvI v5.1]) [pvR 11 0 129, pvI j3] [] (Or.inl rfl) dX11_at_15 rfl rm_11_185 mtE174 rfl rfl rfl (Nat.le_of_ble_eq_true rfl) (Or.inr ⟨_, _, 129, rfl, Or.inl rfl⟩) k6 rfl ?_
    refine go_if_eq (t := 23) (pc' := 21) dX11_at_18 rfl rfl (fun c9 => ?_) (fun c9 => ?_)
    · rw [if_pos (show v5.1 = 0 from c9)] at h
      refine go_aload_n (pc' := 24) dX11_at_23 rfl rfl (Nat.le_of_ble_eq_true rfl) ?_
      refine go_getR (k' := 12) (L0 := 3) (P' := 163) (pc' := 27) dX11_at_24 rfl rf_11_119 rfl rfl (by omega) ?_
      refine go_iload_n (pc' := 28) dX11_at_27 rfl rfl ?_
      obtain ⟨g7, h⟩ := gd h
      refine go_iald (pc' := 29) dX11_at_28 rfl g7 ?_
      refine go_istore_n (L' := [some (pvR 11 0 129), some (pvI x1), some (pvI x2), some (pvI (v5.2 163 x1))]) (pc' := 30) dX11_at_29 rfl (Nat.le_of_ble_eq_true rfl) rfl ?_
      refine go_aload_n (pc' := 31) dX11_at_30 rfl rfl (Nat.le_of_ble_eq_true rfl) ?_
      refine go_getR (k' := 12) (L0 := 3) (P' := 163) (pc' := 34) dX11_at_31 rfl rf_11_119 rfl rfl (by omega) ?_
      refine go_iload_n (pc' := 35) dX11_at_34 rfl rfl ?_
      refine go_iload_n (pc' := 36) dX11_at_35 rfl rfl ?_
      obtain ⟨g8, h⟩ := gd h
      refine go_iast (pc' := 37) dX11_at_36 rfl g8 ?_
      refine go_iload_n (pc' := 38) dX11_at_37 rfl rfl ?_
      cases h
      exact go_iret dX11_at_38 rfl rfl
    · rw [if_neg (show ¬ (v5.1 = 0) from c9)] at h
      refine go_iconst (pc' := 22) dX11_at_21 rfl (r32_c rfl) ?_
      cases h
      exact go_iret dX11_at_22 rfl rfl
  clear h
  have h := k4
  refine go_if_eq (t := 14) (pc' := 10) dX11_at_7 rfl rfl (fun c10 => ?_) (fun c10 => ?_)
  · rw [if_pos (show v1 = 0 from c10)] at h
    refine go_iconst (pc' := 15) dX11_at_14 rfl (r32_c rfl) ?_
    cases h
    exact k4J
  · rw [if_neg (show ¬ (v1 = 0) from c10)] at h
    refine go_iconst (pc' := 11) dX11_at_10 rfl (r32_c rfl) ?_
    refine go_goto (t := 15) dX11_at_11 rfl ?_
    cases h
    exact k4J

set_option maxRecDepth 10000 in
theorem l_M_fits_73 (d : Nat) (n : Nat) (e : Nat) (σ : Hp) (x1 : Int) (x2 : Int) (x3 : Int) (x4 : Int) {out : Out} : ∀ (F : Nat) (y6 : Int) (y7 : Int) (j19 : Int × Int), f_M_fits_73 σ x1 x3 F y6 y7 = some j19 → Go none (Ev (d + 3)) mt225 121 [some (pvR 11 0 129), some (pvI x1), some (pvI x2), some (pvI x3), some (pvI x4), some (pvI j19.1), some (pvI j19.2)] [] (true, n, e, σ) out → Go none (Ev (d + 3)) mt225 73 [some (pvR 11 0 129), some (pvI x1), some (pvI x2), some (pvI x3), some (pvI x4), some (pvI y6), some (pvI y7)] [] (true, n, e, σ) out := by
  intro F
  induction F with
  | zero =>
    intro _ _ _ h
    intro _
    rw [f_M_fits_73] at h
    cases h
  | succ F ih =>
    intro y6 y7 j19 h hx
    rw [f_M_fits_73] at h
    refine go_iload (pc' := 75) dX11_fits_73 rfl rfl ?_
    refine go_aload_n (pc' := 76) dX11_fits_75 rfl rfl (Nat.le_of_ble_eq_true rfl) ?_
    refine go_getR (k' := 12) (L0 := 3) (P' := 130) (pc' := 79) dX11_fits_76 rfl rf_11_9 rfl rfl (by omega) ?_
    refine go_iload_n (pc' := 80) dX11_fits_79 rfl rfl ?_
    obtain ⟨g8, h⟩ := gd h
    refine go_iald (pc' := 81) dX11_fits_80 rfl g8 ?_
    refine go_icmp_ge (t := 121) (pc' := 84) dX11_fits_81 rfl rfl (fun c18 => ?_) (fun c18 => ?_)
    · rw [if_pos (show (σ 130 x1) ≤ y7 from c18)] at h
      cases h
      exact hx
    · rw [if_neg (show ¬ ((σ 130 x1) ≤ y7) from c18)] at h
      refine go_iload (pc' := 86) dX11_fits_84 rfl rfl ?_
      refine go_aload_n (pc' := 87) dX11_fits_86 rfl rfl (Nat.le_of_ble_eq_true rfl) ?_
      refine go_iload_n (pc' := 88) dX11_fits_87 rfl rfl ?_
      refine go_iload (pc' := 90) dX11_fits_88 rfl rfl ?_
      obtain ⟨v9, k10, h⟩ := bd h
      have k10 := l_M_isPlain (d + 2) n e σ x1 y7 _ k10
      refine go_call (kc := 173) (Mc := mt173) (v := some (pvI v9)) (w' := (true, n, e, σ)) (pc' := 93) (st' := [pvI v9, pvI y6]) [pvR 11 0 129, pvI x1, pvI y7] [pvI y6] (Or.inl rfl) dX11_fits_90 rfl rm_11_180 mtE173 rfl rfl rfl (Nat.le_of_ble_eq_true rfl) (Or.inr ⟨_, _, 129, rfl, Or.inl rfl⟩) k10 rfl ?_
      obtain ⟨j11, k12, h⟩ := bd h
      have k12J : Go none (Ev (d + 3)) mt225 112 [some (pvR 11 0 129), some (pvI x1), some (pvI x2), some (pvI x3), some (pvI x4), some (pvI y6), some (pvI y7)] [pvI j11, pvI y6] (true, n, e, σ) out := by
        refine go_iand (pc' := 113) dX11_fits_112 rfl ?_
        refine go_istore (L' := [some (pvR 11 0 129), some (pvI x1), some (pvI x2), some (pvI x3), some (pvI x4), some (pvI (iand y6 j11)), some (pvI y7)]) (pc' := 115) dX11_fits_113 rfl (Nat.le_of_ble_eq_true rfl) rfl ?_
        obtain ⟨g16, h⟩ := gd h
        refine go_iinc (L' := [some (pvR 11 0 129), some (pvI x1), some (pvI x2), some (pvI x3), some (pvI x4), some (pvI (iand y6 j11)), some (pvI (y7 + 1))]) (pc' := 118) dX11_fits_115 rfl rfl g16 rfl ?_
        refine go_goto (t := 73) dX11_fits_118 rfl ?_
        exact ih (iand y6 j11) (y7 + 1) _ h hx
      clear h
      have h := k12
      refine go_if_eq (t := 107) (pc' := 96) dX11_fits_93 rfl rfl (fun c17 => ?_) (fun c17 => ?_)
      · rw [if_pos (show v9 = 0 from c17)] at h
        refine go_iconst (pc' := 108) dX11_fits_107 rfl (r32_c rfl) ?_
        refine go_goto (t := 112) dX11_fits_108 rfl ?_
        cases h
        exact k12J
      · rw [if_neg (show ¬ (v9 = 0) from c17)] at h
        refine go_aload_n (pc' := 97) dX11_fits_96 rfl rfl (Nat.le_of_ble_eq_true rfl) ?_
        refine go_iload_n (pc' := 98) dX11_fits_97 rfl rfl ?_
        refine go_iload (pc' := 100) dX11_fits_98 rfl rfl ?_
        obtain ⟨v13, k14, h⟩ := bd h
        have k14 := l_M_now (d + 1) n e σ x1 y7 _ k14
        refine go_call (kc := 181) (Mc := mt181) (v := some (pvI v13)) (w' := (true, n, e, σ)) (pc' := 103) (st' := [pvI v13, pvI y6]) [pvR 11 0 129, pvI x1, pvI y7] [pvI y6] (Or.inl rfl) dX11_fits_100 rfl rm_11_173 mtE181 rfl rfl rfl (Nat.le_of_ble_eq_true rfl) (Or.inr ⟨_, _, 129, rfl, Or.inl rfl⟩) k14 rfl ?_
        refine go_iload_n (pc' := 104) dX11_fits_103 rfl rfl ?_
        refine go_icmp_eq (t := 111) (pc' := 107) dX11_fits_104 rfl rfl (fun c15 => ?_) (fun c15 => ?_)
        · rw [if_pos (show v13 = x3 from c15)] at h
          refine go_iconst (pc' := 112) dX11_fits_111 rfl (r32_c rfl) ?_
          cases h
          exact k12J
        · rw [if_neg (show ¬ (v13 = x3) from c15)] at h
          refine go_iconst (pc' := 108) dX11_fits_107 rfl (r32_c rfl) ?_
          refine go_goto (t := 112) dX11_fits_108 rfl ?_
          cases h
          exact k12J

set_option maxRecDepth 10000 in
theorem l_M_fits (d : Nat) (n e : Nat) (σ : Hp) (x1 : Int) (x2 : Int) (x3 : Int) (x4 : Int) (r : Int) (h : f_M_fits σ x1 x2 x3 x4 = some r) : Ev (d + 4) 225 [pvR 11 0 129, pvI x1, pvI x2, pvI x3, pvI x4] (true, n, e, σ) (0, some (pvI r), true, n, e, σ) := by
  unfold f_M_fits at h
  refine Ev.of mtE225 rfl rfl rfl rfl ?_
  show Go none (Ev (d + 3)) mt225 0 [some (pvR 11 0 129), some (pvI x1), some (pvI x2), some (pvI x3), some (pvI x4), none, none] [] (true, n, e, σ) (0, some (pvI r), true, n, e, σ)
  refine go_aload_n (pc' := 1) dX11_fits_0 rfl rfl (Nat.le_of_ble_eq_true rfl) ?_
  refine go_iload_n (pc' := 2) dX11_fits_1 rfl rfl ?_
  refine go_iload_n (pc' := 3) dX11_fits_2 rfl rfl ?_
  obtain ⟨v1, k2, h⟩ := bd h
  have k2 := l_M_isPlain (d + 2) n e σ x1 x3 _ k2
  refine go_call (kc := 173) (Mc := mt173) (v := some (pvI v1)) (w' := (true, n, e, σ)) (pc' := 6) (st' := [pvI v1]) [pvR 11 0 129, pvI x1, pvI x3] [] (Or.inl rfl) dX11_fits_3 rfl rm_11_180 mtE173 rfl rfl rfl (Nat.le_of_ble_eq_true rfl) (Or.inr ⟨_, _, 129, rfl, Or.inl rfl⟩) k2 rfl ?_
  refine go_if_eq (t := 18) (pc' := 9) dX11_fits_6 rfl rfl (fun c46 => ?_) (fun c46 => ?_)
  · rw [if_pos (show v1 = 0 from c46)] at h
    refine go_iconst (pc' := 19) dX11_fits_18 rfl (r32_c rfl) ?_
    obtain ⟨g3, h⟩ := gd h
    cases h
    exact go_zret dX11_fits_19 rfl g3 rfl
  · rw [if_neg (show ¬ (v1 = 0) from c46)] at h
    refine go_aload_n (pc' := 10) dX11_fits_9 rfl rfl (Nat.le_of_ble_eq_true rfl) ?_
    refine go_iload_n (pc' := 11) dX11_fits_10 rfl rfl ?_
    refine go_iload_n (pc' := 12) dX11_fits_11 rfl rfl ?_
    obtain ⟨v4, k5, h⟩ := bd h
    have k5 := l_M_seen (d + 0) n e σ x1 x3 _ k5
    refine go_call (kc := 186) (Mc := mt186) (v := some (pvI v4)) (w' := (true, n, e, σ)) (pc' := 15) (st' := [pvI v4]) [pvR 11 0 129, pvI x1, pvI x3] [] (Or.inl rfl) dX11_fits_12 rfl rm_11_208 mtE186 rfl rfl rfl (Nat.le_of_ble_eq_true rfl) (Or.inr ⟨_, _, 129, rfl, Or.inl rfl⟩) k5 rfl ?_
    refine go_if_ne (t := 20) (pc' := 18) dX11_fits_15 rfl rfl (fun c45 => ?_) (fun c45 => ?_)
    · rw [if_pos (show v4 ≠ 0 from c45)] at h
      refine go_iload_n (pc' := 21) dX11_fits_20 rfl rfl ?_
      refine go_if_ne (t := 45) (pc' := 24) dX11_fits_21 rfl rfl (fun c43 => ?_) (fun c43 => ?_)
      · rw [if_pos (show x2 ≠ 0 from c43)] at h
        refine go_iload_n (pc' := 46) dX11_fits_45 rfl rfl ?_
        refine go_iconst (pc' := 47) dX11_fits_46 rfl (r32_c rfl) ?_
        refine go_icmp_ne (t := 67) (pc' := 50) dX11_fits_47 rfl rfl (fun c35 => ?_) (fun c35 => ?_)
        · rw [if_pos (show x2 ≠ 2 from c35)] at h
          refine go_iconst (pc' := 68) dX11_fits_67 rfl (r32_c rfl) ?_
          refine go_istore (L' := [some (pvR 11 0 129), some (pvI x1), some (pvI x2), some (pvI x3), some (pvI x4), some (pvI 1), none]) (pc' := 70) dX11_fits_68 rfl (Nat.le_of_ble_eq_true rfl) rfl ?_
          refine go_iconst (pc' := 71) dX11_fits_70 rfl (r32_c rfl) ?_
          refine go_istore (L' := [some (pvR 11 0 129), some (pvI x1), some (pvI x2), some (pvI x3), some (pvI x4), some (pvI 1), some (pvI 1)]) (pc' := 73) dX11_fits_71 rfl (Nat.le_of_ble_eq_true rfl) rfl ?_
          obtain ⟨j20, k21, h⟩ := bd h
          refine l_M_fits_73 d n e σ x1 x2 x3 x4 zFuel 1 1 _ k21 ?_
          refine go_iload (pc' := 123) dX11_fits_121 rfl rfl ?_
          obtain ⟨j22, k23, h⟩ := bd h
          have k23J : Go none (Ev (d + 3)) mt225 145 [some (pvR 11 0 129), some (pvI x1), some (pvI x2), some (pvI x3), some (pvI x4), some (pvI j20.1), some (pvI j20.2)] [pvI j22] (true, n, e, σ) (0, some (pvI r), true, n, e, σ) := by
            obtain ⟨g27, h⟩ := gd h
            cases h
            exact go_zret dX11_fits_145 rfl g27 rfl
          clear h
          have h := k23
          refine go_if_eq (t := 144) (pc' := 126) dX11_fits_123 rfl rfl (fun c28 => ?_) (fun c28 => ?_)
          · rw [if_pos (show j20.1 = 0 from c28)] at h
            refine go_iconst (pc' := 145) dX11_fits_144 rfl (r32_c rfl) ?_
            cases h
            exact k23J
          · rw [if_neg (show ¬ (j20.1 = 0) from c28)] at h
            refine go_aload_n (pc' := 127) dX11_fits_126 rfl rfl (Nat.le_of_ble_eq_true rfl) ?_
            refine go_iload_n (pc' := 128) dX11_fits_127 rfl rfl ?_
            refine go_iload_n (pc' := 129) dX11_fits_128 rfl rfl ?_
            refine go_iload (pc' := 131) dX11_fits_129 rfl rfl ?_
            refine go_bipush (pc' := 133) dX11_fits_131 rfl (r32_c rfl) (by decide) ?_
            obtain ⟨v24, k25, h⟩ := bd h
            have k25 := l_M_weightTo (d + 1) n e σ x1 x3 x4 99 _ k25
            refine go_call (kc := 204) (Mc := mt204) (v := some (pvI v24)) (w' := (true, n, e, σ)) (pc' := 136) (st' := [pvI v24]) [pvR 11 0 129, pvI x1, pvI x3, pvI x4, pvI 99] [] (Or.inl rfl) dX11_fits_133 rfl rm_11_253 mtE204 rfl rfl rfl (Nat.le_of_ble_eq_true rfl) (Or.inr ⟨_, _, 129, rfl, Or.inl rfl⟩) k25 rfl ?_
            refine go_iconst (pc' := 137) dX11_fits_136 rfl (r32_c rfl) ?_
            refine go_icmp_eq (t := 144) (pc' := 140) dX11_fits_137 rfl rfl (fun c26 => ?_) (fun c26 => ?_)
            · rw [if_pos (show v24 = 2 from c26)] at h
              refine go_iconst (pc' := 145) dX11_fits_144 rfl (r32_c rfl) ?_
              cases h
              exact k23J
            · rw [if_neg (show ¬ (v24 = 2) from c26)] at h
              refine go_iconst (pc' := 141) dX11_fits_140 rfl (r32_c rfl) ?_
              refine go_goto (t := 145) dX11_fits_141 rfl ?_
              cases h
              exact k23J
        · rw [if_neg (show ¬ (x2 ≠ 2) from c35)] at h
          refine go_aload_n (pc' := 51) dX11_fits_50 rfl rfl (Nat.le_of_ble_eq_true rfl) ?_
          refine go_iload_n (pc' := 52) dX11_fits_51 rfl rfl ?_
          refine go_iload_n (pc' := 53) dX11_fits_52 rfl rfl ?_
          obtain ⟨v29, k30, h⟩ := bd h
          have k30 := l_M_depth (d + 0) n e σ x1 x3 _ k30
          refine go_call (kc := 185) (Mc := mt185) (v := some (pvI v29)) (w' := (true, n, e, σ)) (pc' := 56) (st' := [pvI v29]) [pvR 11 0 129, pvI x1, pvI x3] [] (Or.inl rfl) dX11_fits_53 rfl rm_11_205 mtE185 rfl rfl rfl (Nat.le_of_ble_eq_true rfl) (Or.inr ⟨_, _, 129, rfl, Or.inl rfl⟩) k30 rfl ?_
          refine go_iload (pc' := 58) dX11_fits_56 rfl rfl ?_
          obtain ⟨j31, k32, h⟩ := bd h
          have k32J : Go none (Ev (d + 3)) mt225 66 [some (pvR 11 0 129), some (pvI x1), some (pvI x2), some (pvI x3), some (pvI x4), none, none] [pvI j31] (true, n, e, σ) (0, some (pvI r), true, n, e, σ) := by
            obtain ⟨g33, h⟩ := gd h
            cases h
            exact go_zret dX11_fits_66 rfl g33 rfl
          clear h
          have h := k32
          refine go_icmp_ne (t := 65) (pc' := 61) dX11_fits_58 rfl rfl (fun c34 => ?_) (fun c34 => ?_)
          · rw [if_pos (show v29 ≠ x4 from c34)] at h
            refine go_iconst (pc' := 66) dX11_fits_65 rfl (r32_c rfl) ?_
            cases h
            exact k32J
          · rw [if_neg (show ¬ (v29 ≠ x4) from c34)] at h
            refine go_iconst (pc' := 62) dX11_fits_61 rfl (r32_c rfl) ?_
            refine go_goto (t := 66) dX11_fits_62 rfl ?_
            cases h
            exact k32J
      · rw [if_neg (show ¬ (x2 ≠ 0) from c43)] at h
        refine go_iload_n (pc' := 25) dX11_fits_24 rfl rfl ?_
        obtain ⟨j36, k37, h⟩ := bd h
        have k37J : Go none (Ev (d + 3)) mt225 44 [some (pvR 11 0 129), some (pvI x1), some (pvI x2), some (pvI x3), some (pvI x4), none, none] [pvI j36] (true, n, e, σ) (0, some (pvI r), true, n, e, σ) := by
          obtain ⟨g41, h⟩ := gd h
          cases h
          exact go_zret dX11_fits_44 rfl g41 rfl
        clear h
        have h := k37
        refine go_if_le (t := 43) (pc' := 28) dX11_fits_25 rfl rfl (fun c42 => ?_) (fun c42 => ?_)
        · rw [if_pos (show x3 ≤ 0 from c42)] at h
          refine go_iconst (pc' := 44) dX11_fits_43 rfl (r32_c rfl) ?_
          cases h
          exact k37J
        · rw [if_neg (show ¬ (x3 ≤ 0) from c42)] at h
          refine go_aload_n (pc' := 29) dX11_fits_28 rfl rfl (Nat.le_of_ble_eq_true rfl) ?_
          refine go_iload_n (pc' := 30) dX11_fits_29 rfl rfl ?_
          refine go_iload_n (pc' := 31) dX11_fits_30 rfl rfl ?_
          obtain ⟨v38, k39, h⟩ := bd h
          have k39 := l_M_now (d + 1) n e σ x1 x3 _ k39
          refine go_call (kc := 181) (Mc := mt181) (v := some (pvI v38)) (w' := (true, n, e, σ)) (pc' := 34) (st' := [pvI v38]) [pvR 11 0 129, pvI x1, pvI x3] [] (Or.inl rfl) dX11_fits_31 rfl rm_11_173 mtE181 rfl rfl rfl (Nat.le_of_ble_eq_true rfl) (Or.inr ⟨_, _, 129, rfl, Or.inl rfl⟩) k39 rfl ?_
          refine go_iload (pc' := 36) dX11_fits_34 rfl rfl ?_
          refine go_icmp_ne (t := 43) (pc' := 39) dX11_fits_36 rfl rfl (fun c40 => ?_) (fun c40 => ?_)
          · rw [if_pos (show v38 ≠ x4 from c40)] at h
            refine go_iconst (pc' := 44) dX11_fits_43 rfl (r32_c rfl) ?_
            cases h
            exact k37J
          · rw [if_neg (show ¬ (v38 ≠ x4) from c40)] at h
            refine go_iconst (pc' := 40) dX11_fits_39 rfl (r32_c rfl) ?_
            refine go_goto (t := 44) dX11_fits_40 rfl ?_
            cases h
            exact k37J
    · rw [if_neg (show ¬ (v4 ≠ 0) from c45)] at h
      refine go_iconst (pc' := 19) dX11_fits_18 rfl (r32_c rfl) ?_
      obtain ⟨g44, h⟩ := gd h
      cases h
      exact go_zret dX11_fits_19 rfl g44 rfl

set_option maxRecDepth 10000 in
theorem l_M_with (d : Nat) (n e : Nat) (σ : Hp) (x1 : Int) (x2 : Int) (x3 : Int) (r : Int × Hp) (h : f_M_with σ x1 x2 x3 = some r) : Ev (d + 282) 227 [pvR 11 0 129, pvI x1, pvI x2, pvI x3] (true, n, e, σ) (0, some (pvL r.1), true, n, e, r.2) := by
  unfold f_M_with at h
  refine Ev.of mtE227 rfl rfl rfl rfl ?_
  show Go none (Ev (d + 281)) mt227 0 [some (pvR 11 0 129), some (pvI x1), some (pvI x2), some (pvI x3)] [] (true, n, e, σ) (0, some (pvL r.1), true, n, e, r.2)
  refine go_aload_n (pc' := 1) dX11_with_0 rfl rfl (Nat.le_of_ble_eq_true rfl) ?_
  refine go_iload_n (pc' := 2) dX11_with_1 rfl rfl ?_
  obtain ⟨j1, k2, h⟩ := bd h
  have k2J : Go none (Ev (d + 281)) mt227 15 [some (pvR 11 0 129), some (pvI x1), some (pvI x2), some (pvI x3)] [pvI j1, pvR 11 0 129] (true, n, e, σ) (0, some (pvL r.1), true, n, e, r.2) := by
    refine go_iload_n (pc' := 16) dX11_with_15 rfl rfl ?_
    refine go_iconst (pc' := 17) dX11_with_16 rfl (r32_c rfl) ?_
    obtain ⟨j4, k5, h⟩ := bd h
    have k5J : Go none (Ev (d + 281)) mt227 30 [some (pvR 11 0 129), some (pvI x1), some (pvI x2), some (pvI x3)] [pvI j4, pvI j1, pvR 11 0 129] (true, n, e, σ) (0, some (pvL r.1), true, n, e, r.2) := by
      refine go_iload_n (pc' := 31) dX11_with_30 rfl rfl ?_
      refine go_iconst (pc' := 32) dX11_with_31 rfl (r32_c rfl) ?_
      obtain ⟨j7, k8, h⟩ := bd h
      have k8J : Go none (Ev (d + 281)) mt227 45 [some (pvR 11 0 129), some (pvI x1), some (pvI x2), some (pvI x3)] [pvI j7, pvI j4, pvI j1, pvR 11 0 129] (true, n, e, σ) (0, some (pvL r.1), true, n, e, r.2) := by
        refine go_iload_n (pc' := 46) dX11_with_45 rfl rfl ?_
        obtain ⟨v10, k11, h⟩ := bd h
        have k11 := l_M_ask (d + 0) n e σ j1 j4 j7 x3 _ k11
        refine go_call (kc := 220) (Mc := mt220) (v := some (pvL v10.1)) (w' := (true, n, e, v10.2)) (pc' := 49) (st' := [pvL v10.1]) [pvR 11 0 129, pvI j1, pvI j4, pvI j7, pvI x3] [] (Or.inl rfl) dX11_with_46 rfl rm_11_324 mtE220 rfl rfl rfl (Nat.le_of_ble_eq_true rfl) (Or.inr ⟨_, _, 129, rfl, Or.inl rfl⟩) k11 rfl ?_
        cases h
        exact go_lret dX11_with_49 rfl rfl
      clear h
      have h := k8
      refine go_icmp_ne (t := 39) (pc' := 35) dX11_with_32 rfl rfl (fun c12 => ?_) (fun c12 => ?_)
      · rw [if_pos (show x1 ≠ 2 from c12)] at h
        refine go_aload_n (pc' := 40) dX11_with_39 rfl rfl (Nat.le_of_ble_eq_true rfl) ?_
        refine go_getR (k' := 12) (L0 := 3) (P' := 163) (pc' := 43) dX11_with_40 rfl rf_11_119 rfl rfl (by omega) ?_
        refine go_iconst (pc' := 44) dX11_with_43 rfl (r32_c rfl) ?_
        obtain ⟨g9, h⟩ := gd h
        refine go_iald (pc' := 45) dX11_with_44 rfl g9 ?_
        cases h
        exact k8J
      · rw [if_neg (show ¬ (x1 ≠ 2) from c12)] at h
        refine go_iload_n (pc' := 36) dX11_with_35 rfl rfl ?_
        refine go_goto (t := 45) dX11_with_36 rfl ?_
        cases h
        exact k8J
    clear h
    have h := k5
    refine go_icmp_ne (t := 24) (pc' := 20) dX11_with_17 rfl rfl (fun c13 => ?_) (fun c13 => ?_)
    · rw [if_pos (show x1 ≠ 1 from c13)] at h
      refine go_aload_n (pc' := 25) dX11_with_24 rfl rfl (Nat.le_of_ble_eq_true rfl) ?_
      refine go_getR (k' := 12) (L0 := 3) (P' := 163) (pc' := 28) dX11_with_25 rfl rf_11_119 rfl rfl (by omega) ?_
      refine go_iconst (pc' := 29) dX11_with_28 rfl (r32_c rfl) ?_
      obtain ⟨g6, h⟩ := gd h
      refine go_iald (pc' := 30) dX11_with_29 rfl g6 ?_
      cases h
      exact k5J
    · rw [if_neg (show ¬ (x1 ≠ 1) from c13)] at h
      refine go_iload_n (pc' := 21) dX11_with_20 rfl rfl ?_
      refine go_goto (t := 30) dX11_with_21 rfl ?_
      cases h
      exact k5J
  clear h
  have h := k2
  refine go_if_ne (t := 9) (pc' := 5) dX11_with_2 rfl rfl (fun c14 => ?_) (fun c14 => ?_)
  · rw [if_pos (show x1 ≠ 0 from c14)] at h
    refine go_aload_n (pc' := 10) dX11_with_9 rfl rfl (Nat.le_of_ble_eq_true rfl) ?_
    refine go_getR (k' := 12) (L0 := 3) (P' := 163) (pc' := 13) dX11_with_10 rfl rf_11_119 rfl rfl (by omega) ?_
    refine go_iconst (pc' := 14) dX11_with_13 rfl (r32_c rfl) ?_
    obtain ⟨g3, h⟩ := gd h
    refine go_iald (pc' := 15) dX11_with_14 rfl g3 ?_
    cases h
    exact k2J
  · rw [if_neg (show ¬ (x1 ≠ 0) from c14)] at h
    refine go_iload_n (pc' := 6) dX11_with_5 rfl rfl ?_
    refine go_goto (t := 15) dX11_with_6 rfl ?_
    cases h
    exact k2J

set_option maxRecDepth 10000 in
theorem l_M_tops_12 (d : Nat) (n : Nat) (e : Nat) (σ : Hp) (x1 : Int) (x2 : Int) (x3 : Int) (x4 : Int) {out : Out} : ∀ (F : Nat) (y1 : Int) (y2 : Int) (j8 : Int × Int), f_M_tops_12 σ x1 x2 F y1 y2 = some j8 → Go none (Ev (d + 282)) mt226 43 [some (pvR 11 0 129), some (pvI x1), some (pvI x2), some (pvI x3), some (pvI x4), some (pvI 0), some (pvI 0), some (pvI j8.1), some (pvI j8.2), none, none, none, none, none, none] [] (true, n, e, σ) out → Go none (Ev (d + 282)) mt226 12 [some (pvR 11 0 129), some (pvI x1), some (pvI x2), some (pvI x3), some (pvI x4), some (pvI 0), some (pvI 0), some (pvI y1), some (pvI y2), none, none, none, none, none, none] [] (true, n, e, σ) out := by
  intro F
  induction F with
  | zero =>
    intro _ _ _ h
    intro _
    rw [f_M_tops_12] at h
    cases h
  | succ F ih =>
    intro y1 y2 j8 h hx
    rw [f_M_tops_12] at h
    refine go_iload (pc' := 14) dX11_tops_12 rfl rfl ?_
    refine go_iload_n (pc' := 15) dX11_tops_14 rfl rfl ?_
    refine go_icmp_ge (t := 43) (pc' := 18) dX11_tops_15 rfl rfl (fun c7 => ?_) (fun c7 => ?_)
    · rw [if_pos (show x2 ≤ y2 from c7)] at h
      cases h
      exact hx
    · rw [if_neg (show ¬ (x2 ≤ y2) from c7)] at h
      refine go_iload (pc' := 20) dX11_tops_18 rfl rfl ?_
      refine go_iconst (pc' := 21) dX11_tops_20 rfl (r32_c rfl) ?_
      refine go_aload_n (pc' := 22) dX11_tops_21 rfl rfl (Nat.le_of_ble_eq_true rfl) ?_
      refine go_getR (k' := 12) (L0 := 36) (P' := 164) (pc' := 25) dX11_tops_22 rfl rf_11_122 rfl rfl (by omega) ?_
      refine go_bipush (pc' := 27) dX11_tops_25 rfl (r32_c rfl) (by decide) ?_
      refine go_iload_n (pc' := 28) dX11_tops_27 rfl rfl ?_
      obtain ⟨g3, h⟩ := gd h
      refine go_imul (pc' := 29) dX11_tops_28 rfl g3 ?_
      refine go_iload (pc' := 31) dX11_tops_29 rfl rfl ?_
      obtain ⟨g4, h⟩ := gd h
      refine go_iadd (pc' := 32) dX11_tops_31 rfl g4 ?_
      obtain ⟨g5, h⟩ := gd h
      refine go_iald (pc' := 33) dX11_tops_32 rfl g5 ?_
      refine go_ishl (pc' := 34) dX11_tops_33 rfl ?_
      refine go_ior (pc' := 35) dX11_tops_34 rfl ?_
      refine go_istore (L' := [some (pvR 11 0 129), some (pvI x1), some (pvI x2), some (pvI x3), some (pvI x4), some (pvI 0), some (pvI 0), some (pvI (ior y1 (ishl 1 (σ 164 ((12 * x1) + y2))))), some (pvI y2), none, none, none, none, none, none]) (pc' := 37) dX11_tops_35 rfl (Nat.le_of_ble_eq_true rfl) rfl ?_
      obtain ⟨g6, h⟩ := gd h
      refine go_iinc (L' := [some (pvR 11 0 129), some (pvI x1), some (pvI x2), some (pvI x3), some (pvI x4), some (pvI 0), some (pvI 0), some (pvI (ior y1 (ishl 1 (σ 164 ((12 * x1) + y2))))), some (pvI (y2 + 1)), none, none, none, none, none, none]) (pc' := 40) dX11_tops_37 rfl rfl g6 rfl ?_
      refine go_goto (t := 12) dX11_tops_40 rfl ?_
      exact ih (ior y1 (ishl 1 (σ 164 ((12 * x1) + y2)))) (y2 + 1) _ h hx

set_option maxRecDepth 10000 in
theorem l_M_tops_62 (d : Nat) (n : Nat) (e : Nat) (x1 : Int) (x2 : Int) (x3 : Int) (x4 : Int) (j9 : Int × Int) (y11 : Int) (y12 : Int) {out : Out} : ∀ (F : Nat) (y15 : Int) (y16 : Int) (y17 : Int) (σ18 : Hp) (j38 : Int × Int × Int × Hp), f_M_tops_62 x1 x3 j9 y12 F y15 y16 y17 σ18 = some j38 → Go none (Ev (d + 282)) mt226 167 [some (pvR 11 0 129), some (pvI x1), some (pvI x2), some (pvI x3), some (pvI x4), some (pvI y11), some (pvI y12), some (pvI j9.1), some (pvI j38.1), some (pvL j38.2.1), none, some (pvI j38.2.2.1), none, none, none] [] (true, n, e, j38.2.2.2) out → Go none (Ev (d + 282)) mt226 62 [some (pvR 11 0 129), some (pvI x1), some (pvI x2), some (pvI x3), some (pvI x4), some (pvI y11), some (pvI y12), some (pvI j9.1), some (pvI y15), some (pvL y16), none, some (pvI y17), none, none, none] [] (true, n, e, σ18) out := by
  intro F
  induction F with
  | zero =>
    intro _ _ _ _ _ h
    intro _
    rw [f_M_tops_62] at h
    cases h
  | succ F ih =>
    intro y15 y16 y17 σ18 j38 h hx
    rw [f_M_tops_62] at h
    refine go_iload (pc' := 64) dX11_tops_62 rfl rfl ?_
    refine go_if_lt (t := 167) (pc' := 67) dX11_tops_64 rfl rfl (fun c37 => ?_) (fun c37 => ?_)
    · rw [if_pos (show y17 < 0 from c37)] at h
      cases h
      exact hx
    · rw [if_neg (show ¬ (y17 < 0) from c37)] at h
      refine go_iload (pc' := 69) dX11_tops_67 rfl rfl ?_
      refine go_iload (pc' := 71) dX11_tops_69 rfl rfl ?_
      refine go_ishr (pc' := 72) dX11_tops_71 rfl ?_
      refine go_iconst (pc' := 73) dX11_tops_72 rfl (r32_c rfl) ?_
      refine go_iand (pc' := 74) dX11_tops_73 rfl ?_
      refine go_iconst (pc' := 75) dX11_tops_74 rfl (r32_c rfl) ?_
      obtain ⟨j19, k20, h⟩ := bd h
      have k20J : Go none (Ev (d + 282)) mt226 102 [some (pvR 11 0 129), some (pvI x1), some (pvI x2), some (pvI x3), some (pvI x4), some (pvI y11), some (pvI y12), some (pvI j9.1), some (pvI y15), some (pvL y16), none, some (pvI y17), none, none, none] [pvL j19.1] (true, n, e, j19.2) out := by
        refine go_lstore (L' := [some (pvR 11 0 129), some (pvI x1), some (pvI x2), some (pvI x3), some (pvI x4), some (pvI y11), some (pvI y12), some (pvI j9.1), some (pvI y15), some (pvL y16), none, some (pvI y17), some (pvL j19.1), none, none]) (pc' := 104) dX11_tops_102 rfl (Nat.le_of_ble_eq_true rfl) rfl ?_
        refine go_lload (pc' := 106) dX11_tops_104 rfl rfl ?_
        refine go_ldc2 (pc' := 109) dX11_tops_106 rfl (r64_c rfl) rc_11_262 ?_
        refine go_lcmp (pc' := 110) dX11_tops_109 rfl ?_
        obtain ⟨j24, k25, h⟩ := bd h
        have k25J : Go none (Ev (d + 282)) mt226 131 [some (pvR 11 0 129), some (pvI x1), some (pvI x2), some (pvI x3), some (pvI x4), some (pvI y11), some (pvI y12), some (pvI j9.1), some (pvI y15), some (pvL y16), none, some (pvI y17), some (pvL j19.1), none, none] [pvI j24] (true, n, e, j19.2) out := by
          refine go_istore (L' := [some (pvR 11 0 129), some (pvI x1), some (pvI x2), some (pvI x3), some (pvI x4), some (pvI y11), some (pvI y12), some (pvI j9.1), some (pvI y15), some (pvL y16), none, some (pvI y17), some (pvL j19.1), none, some (pvI j24)]) (pc' := 133) dX11_tops_131 rfl (Nat.le_of_ble_eq_true rfl) rfl ?_
          refine go_iload (pc' := 135) dX11_tops_133 rfl rfl ?_
          obtain ⟨j28, k29, h⟩ := bd h
          have k29J : Go none (Ev (d + 282)) mt226 145 [some (pvR 11 0 129), some (pvI x1), some (pvI x2), some (pvI x3), some (pvI x4), some (pvI y11), some (pvI y12), some (pvI j9.1), some (pvI y15), some (pvL y16), none, some (pvI y17), some (pvL j19.1), none, some (pvI j24)] [pvI j28] (true, n, e, j19.2) out := by
            refine go_istore (L' := [some (pvR 11 0 129), some (pvI x1), some (pvI x2), some (pvI x3), some (pvI x4), some (pvI y11), some (pvI y12), some (pvI j9.1), some (pvI j28), some (pvL y16), none, some (pvI y17), some (pvL j19.1), none, some (pvI j24)]) (pc' := 147) dX11_tops_145 rfl (Nat.le_of_ble_eq_true rfl) rfl ?_
            refine go_iload (pc' := 149) dX11_tops_147 rfl rfl ?_
            obtain ⟨j30, k31, h⟩ := bd h
            have k31J : Go none (Ev (d + 282)) mt226 159 [some (pvR 11 0 129), some (pvI x1), some (pvI x2), some (pvI x3), some (pvI x4), some (pvI y11), some (pvI y12), some (pvI j9.1), some (pvI j28), some (pvL y16), none, some (pvI y17), some (pvL j19.1), none, some (pvI j24)] [pvL j30] (true, n, e, j19.2) out := by
              refine go_lstore (L' := [some (pvR 11 0 129), some (pvI x1), some (pvI x2), some (pvI x3), some (pvI x4), some (pvI y11), some (pvI y12), some (pvI j9.1), some (pvI j28), some (pvL j30), none, some (pvI y17), some (pvL j19.1), none, some (pvI j24)]) (pc' := 161) dX11_tops_159 rfl (Nat.le_of_ble_eq_true rfl) rfl ?_
              obtain ⟨g32, h⟩ := gd h
              refine go_iinc (L' := [some (pvR 11 0 129), some (pvI x1), some (pvI x2), some (pvI x3), some (pvI x4), some (pvI y11), some (pvI y12), some (pvI j9.1), some (pvI j28), some (pvL j30), none, some (pvI (y17 + (-1))), some (pvL j19.1), none, some (pvI j24)]) (pc' := 164) dX11_tops_161 rfl rfl g32 rfl ?_
              refine go_goto (t := 62) dX11_tops_164 rfl ?_
              exact go_sub (ih j28 j30 (y17 + (-1)) j19.2 _ h hx) ⟨Or.inr rfl, Or.inr rfl, Or.inr rfl, Or.inr rfl, Or.inr rfl, Or.inr rfl, Or.inr rfl, Or.inr rfl, Or.inr rfl, Or.inr rfl, Or.inr rfl, Or.inr rfl, Or.inl rfl, Or.inr rfl, Or.inl rfl, trivial⟩
            clear h
            have h := k31
            refine go_if_eq (t := 157) (pc' := 152) dX11_tops_149 rfl rfl (fun c33 => ?_) (fun c33 => ?_)
            · rw [if_pos (show j24 = 0 from c33)] at h
              refine go_lload (pc' := 159) dX11_tops_157 rfl rfl ?_
              cases h
              exact k31J
            · rw [if_neg (show ¬ (j24 = 0) from c33)] at h
              refine go_lload (pc' := 154) dX11_tops_152 rfl rfl ?_
              refine go_goto (t := 159) dX11_tops_154 rfl ?_
              cases h
              exact k31J
          clear h
          have h := k29
          refine go_if_eq (t := 143) (pc' := 138) dX11_tops_135 rfl rfl (fun c34 => ?_) (fun c34 => ?_)
          · rw [if_pos (show j24 = 0 from c34)] at h
            refine go_iload (pc' := 145) dX11_tops_143 rfl rfl ?_
            cases h
            exact k29J
          · rw [if_neg (show ¬ (j24 = 0) from c34)] at h
            refine go_iload (pc' := 140) dX11_tops_138 rfl rfl ?_
            refine go_goto (t := 145) dX11_tops_140 rfl ?_
            cases h
            exact k29J
        clear h
        have h := k25
        refine go_if_eq (t := 130) (pc' := 113) dX11_tops_110 rfl rfl (fun c35 => ?_) (fun c35 => ?_)
        · rw [if_pos (show (lcm j19.1 (-9223372036854775808)) = 0 from c35)] at h
          refine go_iconst (pc' := 131) dX11_tops_130 rfl (r32_c rfl) ?_
          cases h
          exact k25J
        · rw [if_neg (show ¬ ((lcm j19.1 (-9223372036854775808)) = 0) from c35)] at h
          refine go_iload (pc' := 115) dX11_tops_113 rfl rfl ?_
          refine go_if_lt (t := 126) (pc' := 118) dX11_tops_115 rfl rfl (fun c27 => ?_) (fun c27 => ?_)
          · rw [if_pos (show y15 < 0 from c27)] at h
            refine go_iconst (pc' := 127) dX11_tops_126 rfl (r32_c rfl) ?_
            refine go_goto (t := 131) dX11_tops_127 rfl ?_
            cases h
            exact k25J
          · rw [if_neg (show ¬ (y15 < 0) from c27)] at h
            refine go_lload (pc' := 120) dX11_tops_118 rfl rfl ?_
            refine go_lload (pc' := 122) dX11_tops_120 rfl rfl ?_
            refine go_lcmp (pc' := 123) dX11_tops_122 rfl ?_
            refine go_if_lt (t := 130) (pc' := 126) dX11_tops_123 rfl rfl (fun c26 => ?_) (fun c26 => ?_)
            · rw [if_pos (show (lcm j19.1 y16) < 0 from c26)] at h
              refine go_iconst (pc' := 131) dX11_tops_130 rfl (r32_c rfl) ?_
              cases h
              exact k25J
            · rw [if_neg (show ¬ ((lcm j19.1 y16) < 0) from c26)] at h
              refine go_iconst (pc' := 127) dX11_tops_126 rfl (r32_c rfl) ?_
              refine go_goto (t := 131) dX11_tops_127 rfl ?_
              cases h
              exact k25J
      clear h
      have h := k20
      refine go_icmp_ne (t := 99) (pc' := 78) dX11_tops_75 rfl rfl (fun c36 => ?_) (fun c36 => ?_)
      · rw [if_pos (show (iand (ishr j9.1 y17) 1) ≠ 1 from c36)] at h
        refine go_ldc2 (pc' := 102) dX11_tops_99 rfl (r64_c rfl) rc_11_262 ?_
        cases h
        exact k20J
      · rw [if_neg (show ¬ ((iand (ishr j9.1 y17) 1) ≠ 1) from c36)] at h
        refine go_iload (pc' := 80) dX11_tops_78 rfl rfl ?_
        refine go_iload (pc' := 82) dX11_tops_80 rfl rfl ?_
        refine go_ishr (pc' := 83) dX11_tops_82 rfl ?_
        refine go_iconst (pc' := 84) dX11_tops_83 rfl (r32_c rfl) ?_
        refine go_iand (pc' := 85) dX11_tops_84 rfl ?_
        refine go_if_ne (t := 99) (pc' := 88) dX11_tops_85 rfl rfl (fun c23 => ?_) (fun c23 => ?_)
        · rw [if_pos (show (iand (ishr y12 y17) 1) ≠ 0 from c23)] at h
          refine go_ldc2 (pc' := 102) dX11_tops_99 rfl (r64_c rfl) rc_11_262 ?_
          cases h
          exact k20J
        · rw [if_neg (show ¬ ((iand (ishr y12 y17) 1) ≠ 0) from c23)] at h
          refine go_aload_n (pc' := 89) dX11_tops_88 rfl rfl (Nat.le_of_ble_eq_true rfl) ?_
          refine go_iload_n (pc' := 90) dX11_tops_89 rfl rfl ?_
          refine go_iload (pc' := 92) dX11_tops_90 rfl rfl ?_
          refine go_iload_n (pc' := 93) dX11_tops_92 rfl rfl ?_
          obtain ⟨v21, k22, h⟩ := bd h
          have k22 := l_M_with (d + 0) n e σ18 x1 y17 x3 _ k22
          refine go_call (kc := 227) (Mc := mt227) (v := some (pvL v21.1)) (w' := (true, n, e, v21.2)) (pc' := 96) (st' := [pvL v21.1]) [pvR 11 0 129, pvI x1, pvI y17, pvI x3] [] (Or.inl rfl) dX11_tops_93 rfl rm_11_335 mtE227 rfl rfl rfl (Nat.le_of_ble_eq_true rfl) (Or.inr ⟨_, _, 129, rfl, Or.inl rfl⟩) k22 rfl ?_
          refine go_goto (t := 102) dX11_tops_96 rfl ?_
          cases h
          exact k20J

set_option maxRecDepth 10000 in
theorem l_M_tops_43 (d : Nat) (n : Nat) (e : Nat) (x1 : Int) (x2 : Int) (x3 : Int) (x4 : Int) (j9 : Int × Int) : ∀ (F : Nat) (y11 : Int) (y12 : Int) (y13 : Int) (σ14 : Hp) (r : Int × Hp), f_M_tops_43 x1 x3 x4 j9 F y11 y12 y13 σ14 = some r → Go none (Ev (d + 282)) mt226 43 [some (pvR 11 0 129), some (pvI x1), some (pvI x2), some (pvI x3), some (pvI x4), some (pvI y11), some (pvI y12), some (pvI j9.1), some (pvI y13), none, none, none, none, none, none] [] (true, n, e, σ14) (0, some (pvI r.1), true, n, e, r.2) := by
  intro F
  induction F with
  | zero =>
    intro _ _ _ _ _ h
    rw [f_M_tops_43] at h
    cases h
  | succ F ih =>
    intro y11 y12 y13 σ14 r h
    rw [f_M_tops_43] at h
    refine go_iload (pc' := 45) dX11_tops_43 rfl rfl ?_
    refine go_iload (pc' := 47) dX11_tops_45 rfl rfl ?_
    refine go_icmp_ge (t := 204) (pc' := 50) dX11_tops_47 rfl rfl (fun c46 => ?_) (fun c46 => ?_)
    · rw [if_pos (show x4 ≤ y11 from c46)] at h
      refine go_iload (pc' := 206) dX11_tops_204 rfl rfl ?_
      cases h
      exact go_iret dX11_tops_206 rfl rfl
    · rw [if_neg (show ¬ (x4 ≤ y11) from c46)] at h
      refine go_iconst (pc' := 51) dX11_tops_50 rfl (r32_c rfl) ?_
      refine go_istore (L' := [some (pvR 11 0 129), some (pvI x1), some (pvI x2), some (pvI x3), some (pvI x4), some (pvI y11), some (pvI y12), some (pvI j9.1), some (pvI (-1)), none, none, none, none, none, none]) (pc' := 53) dX11_tops_51 rfl (Nat.le_of_ble_eq_true rfl) rfl ?_
      refine go_ldc2 (pc' := 56) dX11_tops_53 rfl (r64_c rfl) rc_11_262 ?_
      refine go_lstore (L' := [some (pvR 11 0 129), some (pvI x1), some (pvI x2), some (pvI x3), some (pvI x4), some (pvI y11), some (pvI y12), some (pvI j9.1), some (pvI (-1)), some (pvL (-9223372036854775808)), none, none, none, none, none]) (pc' := 58) dX11_tops_56 rfl (Nat.le_of_ble_eq_true rfl) rfl ?_
      refine go_bipush (pc' := 60) dX11_tops_58 rfl (r32_c rfl) (by decide) ?_
      refine go_istore (L' := [some (pvR 11 0 129), some (pvI x1), some (pvI x2), some (pvI x3), some (pvI x4), some (pvI y11), some (pvI y12), some (pvI j9.1), some (pvI (-1)), some (pvL (-9223372036854775808)), none, some (pvI 11), none, none, none]) (pc' := 62) dX11_tops_60 rfl (Nat.le_of_ble_eq_true rfl) rfl ?_
      obtain ⟨j39, k40, h⟩ := bd h
      refine l_M_tops_62 d n e x1 x2 x3 x4 j9 y11 y12 zFuel (-1) (-9223372036854775808) 11 σ14 _ k40 ?_
      refine go_iload (pc' := 169) dX11_tops_167 rfl rfl ?_
      refine go_if_ge (t := 175) (pc' := 172) dX11_tops_169 rfl rfl (fun c45 => ?_) (fun c45 => ?_)
      · rw [if_pos (show 0 ≤ j39.1 from c45)] at h
        refine go_iload (pc' := 177) dX11_tops_175 rfl rfl ?_
        refine go_iconst (pc' := 178) dX11_tops_177 rfl (r32_c rfl) ?_
        refine go_iload (pc' := 180) dX11_tops_178 rfl rfl ?_
        refine go_ishl (pc' := 181) dX11_tops_180 rfl ?_
        refine go_ior (pc' := 182) dX11_tops_181 rfl ?_
        refine go_istore (L' := [some (pvR 11 0 129), some (pvI x1), some (pvI x2), some (pvI x3), some (pvI x4), some (pvI y11), some (pvI (ior y12 (ishl 1 j39.1))), some (pvI j9.1), some (pvI j39.1), some (pvL j39.2.1), none, some (pvI j39.2.2.1), none, none, none]) (pc' := 184) dX11_tops_182 rfl (Nat.le_of_ble_eq_true rfl) rfl ?_
        refine go_aload_n (pc' := 185) dX11_tops_184 rfl rfl (Nat.le_of_ble_eq_true rfl) ?_
        refine go_getR (k' := 12) (L0 := 36) (P' := 164) (pc' := 188) dX11_tops_185 rfl rf_11_122 rfl rfl (by omega) ?_
        refine go_bipush (pc' := 190) dX11_tops_188 rfl (r32_c rfl) (by decide) ?_
        refine go_iload_n (pc' := 191) dX11_tops_190 rfl rfl ?_
        obtain ⟨g41, h⟩ := gd h
        refine go_imul (pc' := 192) dX11_tops_191 rfl g41 ?_
        refine go_iload (pc' := 194) dX11_tops_192 rfl rfl ?_
        obtain ⟨g42, h⟩ := gd h
        refine go_iadd (pc' := 195) dX11_tops_194 rfl g42 ?_
        refine go_iload (pc' := 197) dX11_tops_195 rfl rfl ?_
        obtain ⟨g43, h⟩ := gd h
        refine go_iast (pc' := 198) dX11_tops_197 rfl g43 ?_
        obtain ⟨g44, h⟩ := gd h
        refine go_iinc (L' := [some (pvR 11 0 129), some (pvI x1), some (pvI x2), some (pvI x3), some (pvI x4), some (pvI (y11 + 1)), some (pvI (ior y12 (ishl 1 j39.1))), some (pvI j9.1), some (pvI j39.1), some (pvL j39.2.1), none, some (pvI j39.2.2.1), none, none, none]) (pc' := 201) dX11_tops_198 rfl rfl g44 rfl ?_
        refine go_goto (t := 43) dX11_tops_201 rfl ?_
        exact go_sub (ih (y11 + 1) (ior y12 (ishl 1 j39.1)) j39.1 (hset j39.2.2.2 164 ((12 * x1) + y11) j39.1) _ h) ⟨Or.inr rfl, Or.inr rfl, Or.inr rfl, Or.inr rfl, Or.inr rfl, Or.inr rfl, Or.inr rfl, Or.inr rfl, Or.inr rfl, Or.inl rfl, Or.inr rfl, Or.inl rfl, Or.inr rfl, Or.inr rfl, Or.inr rfl, trivial⟩
      · rw [if_neg (show ¬ (0 ≤ j39.1) from c45)] at h
        refine go_iload (pc' := 174) dX11_tops_172 rfl rfl ?_
        cases h
        exact go_iret dX11_tops_174 rfl rfl

set_option maxRecDepth 10000 in
theorem l_M_tops (d : Nat) (n e : Nat) (σ : Hp) (x1 : Int) (x2 : Int) (x3 : Int) (x4 : Int) (r : Int × Hp) (h : f_M_tops σ x1 x2 x3 x4 = some r) : Ev (d + 283) 226 [pvR 11 0 129, pvI x1, pvI x2, pvI x3, pvI x4] (true, n, e, σ) (0, some (pvI r.1), true, n, e, r.2) := by
  unfold f_M_tops at h
  refine Ev.of mtE226 rfl rfl rfl rfl ?_
  show Go none (Ev (d + 282)) mt226 0 [some (pvR 11 0 129), some (pvI x1), some (pvI x2), some (pvI x3), some (pvI x4), none, none, none, none, none, none, none, none, none, none] [] (true, n, e, σ) (0, some (pvI r.1), true, n, e, r.2)
  refine go_iconst (pc' := 1) dX11_tops_0 rfl (r32_c rfl) ?_
  refine go_istore (L' := [some (pvR 11 0 129), some (pvI x1), some (pvI x2), some (pvI x3), some (pvI x4), some (pvI 0), none, none, none, none, none, none, none, none, none]) (pc' := 3) dX11_tops_1 rfl (Nat.le_of_ble_eq_true rfl) rfl ?_
  refine go_iconst (pc' := 4) dX11_tops_3 rfl (r32_c rfl) ?_
  refine go_istore (L' := [some (pvR 11 0 129), some (pvI x1), some (pvI x2), some (pvI x3), some (pvI x4), some (pvI 0), some (pvI 0), none, none, none, none, none, none, none, none]) (pc' := 6) dX11_tops_4 rfl (Nat.le_of_ble_eq_true rfl) rfl ?_
  refine go_iconst (pc' := 7) dX11_tops_6 rfl (r32_c rfl) ?_
  refine go_istore (L' := [some (pvR 11 0 129), some (pvI x1), some (pvI x2), some (pvI x3), some (pvI x4), some (pvI 0), some (pvI 0), some (pvI 0), none, none, none, none, none, none, none]) (pc' := 9) dX11_tops_7 rfl (Nat.le_of_ble_eq_true rfl) rfl ?_
  refine go_iconst (pc' := 10) dX11_tops_9 rfl (r32_c rfl) ?_
  refine go_istore (L' := [some (pvR 11 0 129), some (pvI x1), some (pvI x2), some (pvI x3), some (pvI x4), some (pvI 0), some (pvI 0), some (pvI 0), some (pvI 0), none, none, none, none, none, none]) (pc' := 12) dX11_tops_10 rfl (Nat.le_of_ble_eq_true rfl) rfl ?_
  obtain ⟨j9, k10, h⟩ := bd h
  refine l_M_tops_12 d n e σ x1 x2 x3 x4 zFuel 0 0 _ k10 ?_
  exact l_M_tops_43 d n e x1 x2 x3 x4 j9 zFuel 0 0 j9.2 σ _ h

set_option maxRecDepth 10000 in
theorem l_M_pick_147 (d : Nat) (n : Nat) (e : Nat) (x1 : Int) (x2 : Int) (x3 : Int) (x4 : Int) (x5 : Int) (j3 : Int) (j19 : Int) {out : Out} : ∀ (F : Nat) (y37 : Int) (y38 : Int) (σ39 : Hp) (j52 : Int × Int × Hp), f_M_pick_147 x1 x2 x3 F y37 y38 σ39 = some j52 → Go none (Ev (d + 283)) mt224 193 [some (pvR 11 0 129), some (pvI x1), some (pvI x2), some (pvI x3), some (pvI x4), some (pvI x5), some (pvI j3), some (pvI j19), some (pvI j52.1), some (pvI j52.2.1)] [] (true, n, e, j52.2.2) out → Go none (Ev (d + 283)) mt224 147 [some (pvR 11 0 129), some (pvI x1), some (pvI x2), some (pvI x3), some (pvI x4), some (pvI x5), some (pvI j3), some (pvI j19), some (pvI y37), some (pvI y38)] [] (true, n, e, σ39) out := by
  intro F
  induction F with
  | zero =>
    intro _ _ _ _ h
    intro _
    rw [f_M_pick_147] at h
    cases h
  | succ F ih =>
    intro y37 y38 σ39 j52 h hx
    rw [f_M_pick_147] at h
    refine go_iload (pc' := 149) dX11_pick_147 rfl rfl ?_
    refine go_aload_n (pc' := 150) dX11_pick_149 rfl rfl (Nat.le_of_ble_eq_true rfl) ?_
    refine go_getR (k' := 12) (L0 := 3) (P' := 130) (pc' := 153) dX11_pick_150 rfl rf_11_9 rfl rfl (by omega) ?_
    refine go_iload_n (pc' := 154) dX11_pick_153 rfl rfl ?_
    obtain ⟨g40, h⟩ := gd h
    refine go_iald (pc' := 155) dX11_pick_154 rfl g40 ?_
    refine go_icmp_ge (t := 193) (pc' := 158) dX11_pick_155 rfl rfl (fun c51 => ?_) (fun c51 => ?_)
    · rw [if_pos (show (σ39 130 x1) ≤ y38 from c51)] at h
      cases h
      exact hx
    · rw [if_neg (show ¬ ((σ39 130 x1) ≤ y38) from c51)] at h
      refine go_aload_n (pc' := 159) dX11_pick_158 rfl rfl (Nat.le_of_ble_eq_true rfl) ?_
      refine go_iload_n (pc' := 160) dX11_pick_159 rfl rfl ?_
      refine go_iload_n (pc' := 161) dX11_pick_160 rfl rfl ?_
      refine go_iload (pc' := 163) dX11_pick_161 rfl rfl ?_
      refine go_iload_n (pc' := 164) dX11_pick_163 rfl rfl ?_
      obtain ⟨v41, k42, h⟩ := bd h
      have k42 := l_M_fits (d + 279) n e σ39 x1 x2 y38 x3 _ k42
      refine go_call (kc := 225) (Mc := mt225) (v := some (pvI v41)) (w' := (true, n, e, σ39)) (pc' := 167) (st' := [pvI v41]) [pvR 11 0 129, pvI x1, pvI x2, pvI y38, pvI x3] [] (Or.inl rfl) dX11_pick_164 rfl rm_11_329 mtE225 rfl rfl rfl (Nat.le_of_ble_eq_true rfl) (Or.inr ⟨_, _, 129, rfl, Or.inl rfl⟩) k42 rfl ?_
      obtain ⟨j43, k44, h⟩ := bd h
      have k44J : Go none (Ev (d + 283)) mt224 187 [some (pvR 11 0 129), some (pvI x1), some (pvI x2), some (pvI x3), some (pvI x4), some (pvI x5), some (pvI j3), some (pvI j19), some (pvI j43.1), some (pvI y38)] [] (true, n, e, j43.2) out := by
        obtain ⟨g49, h⟩ := gd h
        refine go_iinc (L' := [some (pvR 11 0 129), some (pvI x1), some (pvI x2), some (pvI x3), some (pvI x4), some (pvI x5), some (pvI j3), some (pvI j19), some (pvI j43.1), some (pvI (y38 + 1))]) (pc' := 190) dX11_pick_187 rfl rfl g49 rfl ?_
        refine go_goto (t := 147) dX11_pick_190 rfl ?_
        exact ih j43.1 (y38 + 1) j43.2 _ h hx
      clear h
      have h := k44
      refine go_if_eq (t := 187) (pc' := 170) dX11_pick_167 rfl rfl (fun c50 => ?_) (fun c50 => ?_)
      · rw [if_pos (show v41 = 0 from c50)] at h
        cases h
        exact k44J
      · rw [if_neg (show ¬ (v41 = 0) from c50)] at h
        refine go_aload_n (pc' := 171) dX11_pick_170 rfl rfl (Nat.le_of_ble_eq_true rfl) ?_
        refine go_getR (k' := 12) (L0 := 36) (P' := 164) (pc' := 174) dX11_pick_171 rfl rf_11_122 rfl rfl (by omega) ?_
        refine go_bipush (pc' := 176) dX11_pick_174 rfl (r32_c rfl) (by decide) ?_
        refine go_iload_n (pc' := 177) dX11_pick_176 rfl rfl ?_
        obtain ⟨g45, h⟩ := gd h
        refine go_imul (pc' := 178) dX11_pick_177 rfl g45 ?_
        refine go_iload (pc' := 180) dX11_pick_178 rfl rfl ?_
        obtain ⟨g46, h⟩ := gd h
        refine go_iadd (pc' := 181) dX11_pick_180 rfl g46 ?_
        refine go_iload (pc' := 183) dX11_pick_181 rfl rfl ?_
        obtain ⟨g47, h⟩ := gd h
        refine go_iast (pc' := 184) dX11_pick_183 rfl g47 ?_
        obtain ⟨g48, h⟩ := gd h
        refine go_iinc (L' := [some (pvR 11 0 129), some (pvI x1), some (pvI x2), some (pvI x3), some (pvI x4), some (pvI x5), some (pvI j3), some (pvI j19), some (pvI (y37 + 1)), some (pvI y38)]) (pc' := 187) dX11_pick_184 rfl rfl g48 rfl ?_
        cases h
        exact k44J

set_option maxRecDepth 10000 in
theorem l_M_pick (d : Nat) (n e : Nat) (σ : Hp) (x1 : Int) (x2 : Int) (x3 : Int) (x4 : Int) (x5 : Int) (r : Int × Hp) (h : f_M_pick σ x1 x2 x3 x4 x5 = some r) : Ev (d + 284) 224 [pvR 11 0 129, pvI x1, pvI x2, pvI x3, pvI x4, pvI x5] (true, n, e, σ) (0, some (pvI r.1), true, n, e, r.2) := by
  unfold f_M_pick at h
  refine Ev.of mtE224 rfl rfl rfl rfl ?_
  show Go none (Ev (d + 283)) mt224 0 [some (pvR 11 0 129), some (pvI x1), some (pvI x2), some (pvI x3), some (pvI x4), some (pvI x5), none, none, none, none] [] (true, n, e, σ) (0, some (pvI r.1), true, n, e, r.2)
  refine go_aload_n (pc' := 1) dX11_pick_0 rfl rfl (Nat.le_of_ble_eq_true rfl) ?_
  refine go_iload_n (pc' := 2) dX11_pick_1 rfl rfl ?_
  obtain ⟨v1, k2, h⟩ := bd h
  have k2 := l_M_isDim (d + 281) n e σ x1 _ k2
  refine go_call (kc := 171) (Mc := mt171) (v := some (pvI v1)) (w' := (true, n, e, σ)) (pc' := 5) (st' := [pvI v1]) [pvR 11 0 129, pvI x1] [] (Or.inl rfl) dX11_pick_2 rfl rm_11_149 mtE171 rfl rfl rfl (Nat.le_of_ble_eq_true rfl) (Or.inr ⟨_, _, 129, rfl, Or.inl rfl⟩) k2 rfl ?_
  obtain ⟨j3, k4, h⟩ := bd h
  have k4J : Go none (Ev (d + 283)) mt224 41 [some (pvR 11 0 129), some (pvI x1), some (pvI x2), some (pvI x3), some (pvI x4), some (pvI x5), none, none, none, none] [pvI j3] (true, n, e, σ) (0, some (pvI r.1), true, n, e, r.2) := by
    refine go_istore (L' := [some (pvR 11 0 129), some (pvI x1), some (pvI x2), some (pvI x3), some (pvI x4), some (pvI x5), some (pvI j3), none, none, none]) (pc' := 43) dX11_pick_41 rfl (Nat.le_of_ble_eq_true rfl) rfl ?_
    refine go_aload_n (pc' := 44) dX11_pick_43 rfl rfl (Nat.le_of_ble_eq_true rfl) ?_
    refine go_iload_n (pc' := 45) dX11_pick_44 rfl rfl ?_
    refine go_i2l (pc' := 46) dX11_pick_45 rfl ?_
    refine go_lconst (z := 0) (pc' := 47) dX11_pick_46 rfl rfl ?_
    refine go_ldc2 (pc' := 50) dX11_pick_47 rfl (r64_c rfl) rc_11_143 ?_
    obtain ⟨v17, k18, h⟩ := bd h
    have k18 := l_M_in (d + 282) n e σ x2 0 2 _ k18
    refine go_call (kc := 172) (Mc := mt172) (v := some (pvI v17)) (w' := (true, n, e, σ)) (pc' := 53) (st' := [pvI v17]) [pvR 11 0 129, pvL x2, pvL 0, pvL 2] [] (Or.inl rfl) dX11_pick_50 rfl rm_11_145 mtE172 rfl rfl rfl (Nat.le_of_ble_eq_true rfl) (Or.inr ⟨_, _, 129, rfl, Or.inl rfl⟩) k18 rfl ?_
    obtain ⟨j19, k20, h⟩ := bd h
    have k20J : Go none (Ev (d + 283)) mt224 93 [some (pvR 11 0 129), some (pvI x1), some (pvI x2), some (pvI x3), some (pvI x4), some (pvI x5), some (pvI j3), none, none, none] [pvI j19] (true, n, e, σ) (0, some (pvI r.1), true, n, e, r.2) := by
      refine go_istore (L' := [some (pvR 11 0 129), some (pvI x1), some (pvI x2), some (pvI x3), some (pvI x4), some (pvI x5), some (pvI j3), some (pvI j19), none, none]) (pc' := 95) dX11_pick_93 rfl (Nat.le_of_ble_eq_true rfl) rfl ?_
      refine go_aload_n (pc' := 96) dX11_pick_95 rfl rfl (Nat.le_of_ble_eq_true rfl) ?_
      refine go_iload (pc' := 98) dX11_pick_96 rfl rfl ?_
      obtain ⟨j28, k29, h⟩ := bd h
      have k29J : Go none (Ev (d + 283)) mt224 133 [some (pvR 11 0 129), some (pvI x1), some (pvI x2), some (pvI x3), some (pvI x4), some (pvI x5), some (pvI j3), some (pvI j19), none, none] [pvI j28, pvR 11 0 129] (true, n, e, σ) (0, some (pvI r.1), true, n, e, r.2) := by
        obtain ⟨v35, k36, h⟩ := bd h
        have k36 := l_M_holds (d + 282) n e σ j28 _ k36
        refine go_call (kc := 174) (Mc := mt174) (v := some (pvI v35.1)) (w' := (true, n, e, v35.2)) (pc' := 136) (st' := [pvI v35.1]) [pvR 11 0 129, pvI j28] [] (Or.inl rfl) dX11_pick_133 rfl rm_11_185 mtE174 rfl rfl rfl (Nat.le_of_ble_eq_true rfl) (Or.inr ⟨_, _, 129, rfl, Or.inl rfl⟩) k36 rfl ?_
        refine go_if_eq (t := 141) (pc' := 139) dX11_pick_136 rfl rfl (fun c62 => ?_) (fun c62 => ?_)
        · rw [if_pos (show v35.1 = 0 from c62)] at h
          refine go_iconst (pc' := 142) dX11_pick_141 rfl (r32_c rfl) ?_
          refine go_istore (L' := [some (pvR 11 0 129), some (pvI x1), some (pvI x2), some (pvI x3), some (pvI x4), some (pvI x5), some (pvI j3), some (pvI j19), some (pvI 0), none]) (pc' := 144) dX11_pick_142 rfl (Nat.le_of_ble_eq_true rfl) rfl ?_
          refine go_iconst (pc' := 145) dX11_pick_144 rfl (r32_c rfl) ?_
          refine go_istore (L' := [some (pvR 11 0 129), some (pvI x1), some (pvI x2), some (pvI x3), some (pvI x4), some (pvI x5), some (pvI j3), some (pvI j19), some (pvI 0), some (pvI 0)]) (pc' := 147) dX11_pick_145 rfl (Nat.le_of_ble_eq_true rfl) rfl ?_
          obtain ⟨j53, k54, h⟩ := bd h
          refine l_M_pick_147 d n e x1 x2 x3 x4 x5 j3 j19 zFuel 0 0 v35.2 _ k54 ?_
          refine go_aload_n (pc' := 194) dX11_pick_193 rfl rfl (Nat.le_of_ble_eq_true rfl) ?_
          refine go_getR (k' := 12) (L0 := 3) (P' := 165) (pc' := 197) dX11_pick_194 rfl rf_11_125 rfl rfl (by omega) ?_
          refine go_iload_n (pc' := 198) dX11_pick_197 rfl rfl ?_
          refine go_iload (pc' := 200) dX11_pick_198 rfl rfl ?_
          obtain ⟨j55, k56, h⟩ := bd h
          have k56J : Go none (Ev (d + 283)) mt224 219 [some (pvR 11 0 129), some (pvI x1), some (pvI x2), some (pvI x3), some (pvI x4), some (pvI x5), some (pvI j3), some (pvI j19), some (pvI j53.1), some (pvI j53.2.1)] [pvI j55.1, pvI x1, pvR 12 3 165] (true, n, e, j55.2) (0, some (pvI r.1), true, n, e, r.2) := by
            obtain ⟨g59, h⟩ := gd h
            refine go_iast (pc' := 220) dX11_pick_219 rfl g59 ?_
            refine go_aload_n (pc' := 221) dX11_pick_220 rfl rfl (Nat.le_of_ble_eq_true rfl) ?_
            refine go_getR (k' := 12) (L0 := 3) (P' := 165) (pc' := 224) dX11_pick_221 rfl rf_11_125 rfl rfl (by omega) ?_
            refine go_iload_n (pc' := 225) dX11_pick_224 rfl rfl ?_
            obtain ⟨g60, h⟩ := gd h
            refine go_iald (pc' := 226) dX11_pick_225 rfl g60 ?_
            cases h
            exact go_iret dX11_pick_226 rfl rfl
          clear h
          have h := k56
          refine go_if_ne (t := 208) (pc' := 203) dX11_pick_200 rfl rfl (fun c61 => ?_) (fun c61 => ?_)
          · rw [if_pos (show x5 ≠ 0 from c61)] at h
            refine go_aload_n (pc' := 209) dX11_pick_208 rfl rfl (Nat.le_of_ble_eq_true rfl) ?_
            refine go_iload_n (pc' := 210) dX11_pick_209 rfl rfl ?_
            refine go_iload (pc' := 212) dX11_pick_210 rfl rfl ?_
            refine go_iload (pc' := 214) dX11_pick_212 rfl rfl ?_
            refine go_iload (pc' := 216) dX11_pick_214 rfl rfl ?_
            obtain ⟨v57, k58, h⟩ := bd h
            have k58 := l_M_tops (d + 0) n e j53.2.2 x1 j53.1 x4 x5 _ k58
            refine go_call (kc := 226) (Mc := mt226) (v := some (pvI v57.1)) (w' := (true, n, e, v57.2)) (pc' := 219) (st' := [pvI v57.1, pvI x1, pvR 12 3 165]) [pvR 11 0 129, pvI x1, pvI j53.1, pvI x4, pvI x5] [pvI x1, pvR 12 3 165] (Or.inl rfl) dX11_pick_216 rfl rm_11_332 mtE226 rfl rfl rfl (Nat.le_of_ble_eq_true rfl) (Or.inr ⟨_, _, 129, rfl, Or.inl rfl⟩) k58 rfl ?_
            cases h
            exact k56J
          · rw [if_neg (show ¬ (x5 ≠ 0) from c61)] at h
            refine go_iload (pc' := 205) dX11_pick_203 rfl rfl ?_
            refine go_goto (t := 219) dX11_pick_205 rfl ?_
            cases h
            exact k56J
        · rw [if_neg (show ¬ (v35.1 = 0) from c62)] at h
          refine go_iconst (pc' := 140) dX11_pick_139 rfl (r32_c rfl) ?_
          cases h
          exact go_iret dX11_pick_140 rfl rfl
      clear h
      have h := k29
      refine go_if_ne (t := 105) (pc' := 101) dX11_pick_98 rfl rfl (fun c63 => ?_) (fun c63 => ?_)
      · rw [if_pos (show j3 ≠ 0 from c63)] at h
        refine go_iload (pc' := 107) dX11_pick_105 rfl rfl ?_
        refine go_if_ne (t := 114) (pc' := 110) dX11_pick_107 rfl rfl (fun c34 => ?_) (fun c34 => ?_)
        · rw [if_pos (show j19 ≠ 0 from c34)] at h
          refine go_iload_n (pc' := 115) dX11_pick_114 rfl rfl ?_
          refine go_iconst (pc' := 116) dX11_pick_115 rfl (r32_c rfl) ?_
          refine go_icmp_eq (t := 132) (pc' := 119) dX11_pick_116 rfl rfl (fun c33 => ?_) (fun c33 => ?_)
          · rw [if_pos (show x2 = 2 from c33)] at h
            refine go_iconst (pc' := 133) dX11_pick_132 rfl (r32_c rfl) ?_
            cases h
            exact k29J
          · rw [if_neg (show ¬ (x2 = 2) from c33)] at h
            refine go_aload_n (pc' := 120) dX11_pick_119 rfl rfl (Nat.le_of_ble_eq_true rfl) ?_
            refine go_iload_n (pc' := 121) dX11_pick_120 rfl rfl ?_
            refine go_iload_n (pc' := 122) dX11_pick_121 rfl rfl ?_
            obtain ⟨v30, k31, h⟩ := bd h
            have k31 := l_M_isPlain (d + 282) n e σ x1 x3 _ k31
            refine go_call (kc := 173) (Mc := mt173) (v := some (pvI v30)) (w' := (true, n, e, σ)) (pc' := 125) (st' := [pvI v30, pvR 11 0 129]) [pvR 11 0 129, pvI x1, pvI x3] [pvR 11 0 129] (Or.inl rfl) dX11_pick_122 rfl rm_11_180 mtE173 rfl rfl rfl (Nat.le_of_ble_eq_true rfl) (Or.inr ⟨_, _, 129, rfl, Or.inl rfl⟩) k31 rfl ?_
            refine go_if_ne (t := 132) (pc' := 128) dX11_pick_125 rfl rfl (fun c32 => ?_) (fun c32 => ?_)
            · rw [if_pos (show v30 ≠ 0 from c32)] at h
              refine go_iconst (pc' := 133) dX11_pick_132 rfl (r32_c rfl) ?_
              cases h
              exact k29J
            · rw [if_neg (show ¬ (v30 ≠ 0) from c32)] at h
              refine go_iconst (pc' := 129) dX11_pick_128 rfl (r32_c rfl) ?_
              refine go_goto (t := 133) dX11_pick_129 rfl ?_
              cases h
              exact k29J
        · rw [if_neg (show ¬ (j19 ≠ 0) from c34)] at h
          refine go_iconst (pc' := 111) dX11_pick_110 rfl (r32_c rfl) ?_
          refine go_goto (t := 133) dX11_pick_111 rfl ?_
          cases h
          exact k29J
      · rw [if_neg (show ¬ (j3 ≠ 0) from c63)] at h
        refine go_iconst (pc' := 102) dX11_pick_101 rfl (r32_c rfl) ?_
        refine go_goto (t := 133) dX11_pick_102 rfl ?_
        cases h
        exact k29J
    clear h
    have h := k20
    refine go_if_eq (t := 92) (pc' := 56) dX11_pick_53 rfl rfl (fun c64 => ?_) (fun c64 => ?_)
    · rw [if_pos (show v17 = 0 from c64)] at h
      refine go_iconst (pc' := 93) dX11_pick_92 rfl (r32_c rfl) ?_
      cases h
      exact k20J
    · rw [if_neg (show ¬ (v17 = 0) from c64)] at h
      refine go_aload_n (pc' := 57) dX11_pick_56 rfl rfl (Nat.le_of_ble_eq_true rfl) ?_
      refine go_iload (pc' := 59) dX11_pick_57 rfl rfl ?_
      refine go_i2l (pc' := 60) dX11_pick_59 rfl ?_
      refine go_lconst (z := 0) (pc' := 61) dX11_pick_60 rfl rfl ?_
      refine go_ldc2 (pc' := 64) dX11_pick_61 rfl (r64_c rfl) rc_11_327 ?_
      obtain ⟨v21, k22, h⟩ := bd h
      have k22 := l_M_in (d + 282) n e σ x5 0 12 _ k22
      refine go_call (kc := 172) (Mc := mt172) (v := some (pvI v21)) (w' := (true, n, e, σ)) (pc' := 67) (st' := [pvI v21]) [pvR 11 0 129, pvL x5, pvL 0, pvL 12] [] (Or.inl rfl) dX11_pick_64 rfl rm_11_145 mtE172 rfl rfl rfl (Nat.le_of_ble_eq_true rfl) (Or.inr ⟨_, _, 129, rfl, Or.inl rfl⟩) k22 rfl ?_
      refine go_if_eq (t := 92) (pc' := 70) dX11_pick_67 rfl rfl (fun c27 => ?_) (fun c27 => ?_)
      · rw [if_pos (show v21 = 0 from c27)] at h
        refine go_iconst (pc' := 93) dX11_pick_92 rfl (r32_c rfl) ?_
        cases h
        exact k20J
      · rw [if_neg (show ¬ (v21 = 0) from c27)] at h
        refine go_iload_n (pc' := 71) dX11_pick_70 rfl rfl ?_
        refine go_iconst (pc' := 72) dX11_pick_71 rfl (r32_c rfl) ?_
        refine go_icmp_ne (t := 88) (pc' := 75) dX11_pick_72 rfl rfl (fun c26 => ?_) (fun c26 => ?_)
        · rw [if_pos (show x2 ≠ 2 from c26)] at h
          refine go_iconst (pc' := 89) dX11_pick_88 rfl (r32_c rfl) ?_
          refine go_goto (t := 93) dX11_pick_89 rfl ?_
          cases h
          exact k20J
        · rw [if_neg (show ¬ (x2 ≠ 2) from c26)] at h
          refine go_aload_n (pc' := 76) dX11_pick_75 rfl rfl (Nat.le_of_ble_eq_true rfl) ?_
          refine go_iload_n (pc' := 77) dX11_pick_76 rfl rfl ?_
          refine go_i2l (pc' := 78) dX11_pick_77 rfl ?_
          refine go_lconst (z := 0) (pc' := 79) dX11_pick_78 rfl rfl ?_
          refine go_ldc2 (pc' := 82) dX11_pick_79 rfl (r64_c rfl) rc_11_217 ?_
          obtain ⟨v23, k24, h⟩ := bd h
          have k24 := l_M_in (d + 282) n e σ x3 0 11 _ k24
          refine go_call (kc := 172) (Mc := mt172) (v := some (pvI v23)) (w' := (true, n, e, σ)) (pc' := 85) (st' := [pvI v23]) [pvR 11 0 129, pvL x3, pvL 0, pvL 11] [] (Or.inl rfl) dX11_pick_82 rfl rm_11_145 mtE172 rfl rfl rfl (Nat.le_of_ble_eq_true rfl) (Or.inr ⟨_, _, 129, rfl, Or.inl rfl⟩) k24 rfl ?_
          refine go_if_eq (t := 92) (pc' := 88) dX11_pick_85 rfl rfl (fun c25 => ?_) (fun c25 => ?_)
          · rw [if_pos (show v23 = 0 from c25)] at h
            refine go_iconst (pc' := 93) dX11_pick_92 rfl (r32_c rfl) ?_
            cases h
            exact k20J
          · rw [if_neg (show ¬ (v23 = 0) from c25)] at h
            refine go_iconst (pc' := 89) dX11_pick_88 rfl (r32_c rfl) ?_
            refine go_goto (t := 93) dX11_pick_89 rfl ?_
            cases h
            exact k20J
  clear h
  have h := k4
  refine go_if_eq (t := 40) (pc' := 8) dX11_pick_5 rfl rfl (fun c65 => ?_) (fun c65 => ?_)
  · rw [if_pos (show v1 = 0 from c65)] at h
    refine go_iconst (pc' := 41) dX11_pick_40 rfl (r32_c rfl) ?_
    cases h
    exact k4J
  · rw [if_neg (show ¬ (v1 = 0) from c65)] at h
    refine go_iload_n (pc' := 9) dX11_pick_8 rfl rfl ?_
    refine go_iconst (pc' := 10) dX11_pick_9 rfl (r32_c rfl) ?_
    refine go_icmp_eq (t := 22) (pc' := 13) dX11_pick_10 rfl rfl (fun c16 => ?_) (fun c16 => ?_)
    · rw [if_pos (show x2 = 2 from c16)] at h
      refine go_iload (pc' := 24) dX11_pick_22 rfl rfl ?_
      refine go_if_eq (t := 36) (pc' := 27) dX11_pick_24 rfl rfl (fun c8 => ?_) (fun c8 => ?_)
      · rw [if_pos (show x5 = 0 from c8)] at h
        refine go_iconst (pc' := 37) dX11_pick_36 rfl (r32_c rfl) ?_
        refine go_goto (t := 41) dX11_pick_37 rfl ?_
        cases h
        exact k4J
      · rw [if_neg (show ¬ (x5 = 0) from c8)] at h
        refine go_aload_n (pc' := 28) dX11_pick_27 rfl rfl (Nat.le_of_ble_eq_true rfl) ?_
        refine go_iload (pc' := 30) dX11_pick_28 rfl rfl ?_
        obtain ⟨v5, k6, h⟩ := bd h
        have k6 := l_M_isMeasure (d + 281) n e σ x4 _ k6
        refine go_call (kc := 193) (Mc := mt193) (v := some (pvI v5)) (w' := (true, n, e, σ)) (pc' := 33) (st' := [pvI v5]) [pvR 11 0 129, pvI x4] [] (Or.inl rfl) dX11_pick_30 rfl rm_11_160 mtE193 rfl rfl rfl (Nat.le_of_ble_eq_true rfl) (Or.inr ⟨_, _, 129, rfl, Or.inl rfl⟩) k6 rfl ?_
        refine go_if_eq (t := 40) (pc' := 36) dX11_pick_33 rfl rfl (fun c7 => ?_) (fun c7 => ?_)
        · rw [if_pos (show v5 = 0 from c7)] at h
          refine go_iconst (pc' := 41) dX11_pick_40 rfl (r32_c rfl) ?_
          cases h
          exact k4J
        · rw [if_neg (show ¬ (v5 = 0) from c7)] at h
          refine go_iconst (pc' := 37) dX11_pick_36 rfl (r32_c rfl) ?_
          refine go_goto (t := 41) dX11_pick_37 rfl ?_
          cases h
          exact k4J
    · rw [if_neg (show ¬ (x2 = 2) from c16)] at h
      refine go_aload_n (pc' := 14) dX11_pick_13 rfl rfl (Nat.le_of_ble_eq_true rfl) ?_
      refine go_iload_n (pc' := 15) dX11_pick_14 rfl rfl ?_
      refine go_iload_n (pc' := 16) dX11_pick_15 rfl rfl ?_
      obtain ⟨v9, k10, h⟩ := bd h
      have k10 := l_M_is (d + 280) n e σ x1 x3 _ k10
      refine go_call (kc := 170) (Mc := mt170) (v := some (pvI v9)) (w' := (true, n, e, σ)) (pc' := 19) (st' := [pvI v9]) [pvR 11 0 129, pvI x1, pvI x3] [] (Or.inl rfl) dX11_pick_16 rfl rm_11_156 mtE170 rfl rfl rfl (Nat.le_of_ble_eq_true rfl) (Or.inr ⟨_, _, 129, rfl, Or.inl rfl⟩) k10 rfl ?_
      refine go_if_eq (t := 40) (pc' := 22) dX11_pick_19 rfl rfl (fun c15 => ?_) (fun c15 => ?_)
      · rw [if_pos (show v9 = 0 from c15)] at h
        refine go_iconst (pc' := 41) dX11_pick_40 rfl (r32_c rfl) ?_
        cases h
        exact k4J
      · rw [if_neg (show ¬ (v9 = 0) from c15)] at h
        refine go_iload (pc' := 24) dX11_pick_22 rfl rfl ?_
        refine go_if_eq (t := 36) (pc' := 27) dX11_pick_24 rfl rfl (fun c14 => ?_) (fun c14 => ?_)
        · rw [if_pos (show x5 = 0 from c14)] at h
          refine go_iconst (pc' := 37) dX11_pick_36 rfl (r32_c rfl) ?_
          refine go_goto (t := 41) dX11_pick_37 rfl ?_
          cases h
          exact k4J
        · rw [if_neg (show ¬ (x5 = 0) from c14)] at h
          refine go_aload_n (pc' := 28) dX11_pick_27 rfl rfl (Nat.le_of_ble_eq_true rfl) ?_
          refine go_iload (pc' := 30) dX11_pick_28 rfl rfl ?_
          obtain ⟨v11, k12, h⟩ := bd h
          have k12 := l_M_isMeasure (d + 281) n e σ x4 _ k12
          refine go_call (kc := 193) (Mc := mt193) (v := some (pvI v11)) (w' := (true, n, e, σ)) (pc' := 33) (st' := [pvI v11]) [pvR 11 0 129, pvI x4] [] (Or.inl rfl) dX11_pick_30 rfl rm_11_160 mtE193 rfl rfl rfl (Nat.le_of_ble_eq_true rfl) (Or.inr ⟨_, _, 129, rfl, Or.inl rfl⟩) k12 rfl ?_
          refine go_if_eq (t := 40) (pc' := 36) dX11_pick_33 rfl rfl (fun c13 => ?_) (fun c13 => ?_)
          · rw [if_pos (show v11 = 0 from c13)] at h
            refine go_iconst (pc' := 41) dX11_pick_40 rfl (r32_c rfl) ?_
            cases h
            exact k4J
          · rw [if_neg (show ¬ (v11 = 0) from c13)] at h
            refine go_iconst (pc' := 37) dX11_pick_36 rfl (r32_c rfl) ?_
            refine go_goto (t := 41) dX11_pick_37 rfl ?_
            cases h
            exact k4J

